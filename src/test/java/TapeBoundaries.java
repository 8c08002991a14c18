/** Boundary cases of promises 1 to 3: a new object, the tape. */
final class TapeBoundaries {
  private static final int NONE = Boundary.NONE;
  private static final int BLANKS = 0x20202020;

  private TapeBoundaries() {
  }

  private static void due(long got, long want) {
    Boundary.due(got, want);
  }

  private static SettledDots withBytes(int n) {
    SettledDots dots = new SettledDots();
    for (int i = 0; i < (n + 19) / 20; i++) {
      dots.feed(BLANKS, BLANKS, BLANKS, BLANKS, BLANKS);
    }
    dots.end(n);
    return dots;
  }

  // ---- promise 1 ----

  @Sentence("WIDTH, HEIGHT 8, all WEIGHTS 0, no DOTS.")
  static void promise01NewObjectIsEightWide() {
    due(new SettledDots().about(0), 8);
    due(new SettledDots().cell(7, 0, 0), 0);
    due(new SettledDots().cell(8, 0, 0), NONE);
  }

  @Sentence("WIDTH, HEIGHT 8, all WEIGHTS 0, no DOTS.")
  static void promise01NewObjectIsEightHigh() {
    due(new SettledDots().about(1), 8);
    due(new SettledDots().cell(0, 7, 0), 0);
    due(new SettledDots().cell(0, 8, 0), NONE);
  }

  @Sentence("WIDTH, HEIGHT 8, all WEIGHTS 0, no DOTS.")
  static void promise01NewObjectHasNoWeights() {
    SettledDots dots = new SettledDots();
    due(dots.about(3), 0);
    due(dots.shade(0, 0), 64);
  }

  @Sentence("WIDTH, HEIGHT 8, all WEIGHTS 0, no DOTS.")
  static void promise01NewObjectHasNoDots() {
    SettledDots dots = new SettledDots();
    due(dots.about(2), 0);
    due(dots.dot(0, 0), NONE);
    due(dots.put(3, 3), 0);
  }

  @Sentence("the seed (0 at first)")
  static void promise01SeedOfANewObjectIsNaught() {
    due(new SettledDots().about(6), 0);
    due(new SettledDots().seed(9), 0);
  }

  @Sentence("`NONE = -1`: There is none.")
  static void promise01NoneIsMinusOne() {
    due(SettledDots.NONE, -1);
  }

  @Sentence("An object is used for at most 512 calls after it has been made")
  static void promise01The512thCallIsStillAnswered() {
    SettledDots dots = new SettledDots();
    due(dots.put(7, 7), 0);
    due(dots.paint(0, 0, 1), 0);
    for (int i = 3; i < 512; i++) {
      due(dots.paint(0, 0, 1 + i % 2), 2 - i % 2);
    }
    due(dots.about(4), 196000);
  }

  // ---- promise 2 ----

  @Sentence("Twenty bytes come behind those on the TAPE")
  static void promise02FirstFeedIsTwentyBytes() {
    SettledDots dots = new SettledDots();
    due(dots.feed(0, 0, 0, 0, 0), 20);
    due(dots.about(9), 20);
  }

  @Sentence("Twenty bytes come behind those on the TAPE")
  static void promise02BytesComeBehindThoseThatAreThere() {
    SettledDots dots = new SettledDots();
    Check.tape(dots, "row 1;");
    due(dots.feed(0x726f7720, 0x323b2020, BLANKS, BLANKS, BLANKS), 26);
    due(dots.picture(), 0);
    due(dots.cell(0, 0, 0), 1);
    due(dots.cell(0, 1, 0), 2);
  }

  @Sentence("of each number the highest first")
  static void promise02HighestByteOfEachNumberComesFirst() {
    SettledDots dots = new SettledDots();
    due(dots.feed(0x726f7720, 0x31323334, 0x35363738, 0x3b726f77, 0x20393b20), 20);
    due(dots.picture(), 0);
    for (int x = 0; x < 8; x++) {
      due(dots.cell(x, 0, 0), x + 1);
    }
    due(dots.cell(0, 1, 0), 9);
  }

  @Sentence("of each number the highest first")
  static void promise02BytesAbove127ComeFromNumbersBelowNaughtToo() {
    SettledDots dots = new SettledDots();
    dots.feed(0xa0202020, BLANKS, BLANKS, BLANKS, BLANKS);
    due(dots.picture(), NONE);
    due(dots.fault(1), 0);
    dots.feed(BLANKS, BLANKS, BLANKS, BLANKS, 0x202020ff);
    due(dots.picture(), NONE);
    due(dots.fault(1), 19);
  }

  @Sentence("NONE, and nothing comes, if there would be more than 900.")
  static void promise02NineHundredBytesAreTheMost() {
    SettledDots dots = new SettledDots();
    for (int i = 1; i <= 45; i++) {
      due(dots.feed(BLANKS, BLANKS, BLANKS, BLANKS, BLANKS), 20 * i);
    }
    due(dots.about(9), 900);
  }

  @Sentence("NONE, and nothing comes, if there would be more than 900.")
  static void promise02FeedBehindNineHundredBytesIsRefused() {
    SettledDots dots = withBytes(900);
    due(dots.feed(BLANKS, BLANKS, BLANKS, BLANKS, BLANKS), NONE);
    due(dots.about(9), 900);
  }

  @Sentence("NONE, and nothing comes, if there would be more than 900.")
  static void promise02FeedBehind880BytesFits() {
    due(withBytes(880).feed(BLANKS, BLANKS, BLANKS, BLANKS, BLANKS), 900);
  }

  @Sentence("NONE, and nothing comes, if there would be more than 900.")
  static void promise02FeedBehind881BytesIsRefused() {
    SettledDots dots = withBytes(881);
    due(dots.feed(BLANKS, BLANKS, BLANKS, BLANKS, BLANKS), NONE);
    due(dots.about(9), 881);
  }

  @Sentence("NONE, and nothing comes, if there would be more than 900.")
  static void promise02RefusedFeedLeavesTheBytes() {
    SettledDots dots = withBytes(881);
    due(dots.feed(0x78787878, 0x78787878, 0x78787878, 0x78787878, 0x78787878), NONE);
    due(dots.picture(), 0);
  }

  // ---- promise 3 ----

  @Sentence("The TAPE has its first n bytes: n")
  static void promise03EndAtAllBytesKeepsThem() {
    SettledDots dots = withBytes(40);
    due(dots.end(40), 40);
    due(dots.about(9), 40);
  }

  @Sentence("The TAPE has its first n bytes: n")
  static void promise03EndAtNineHundredKeepsAFullTape() {
    due(withBytes(900).end(900), 900);
  }

  @Sentence("The TAPE has its first n bytes: n")
  static void promise03EndAtNaughtEmptiesTheTape() {
    SettledDots dots = withBytes(40);
    due(dots.end(0), 0);
    due(dots.about(9), 0);
  }

  @Sentence("The TAPE has its first n bytes: n")
  static void promise03EndOfAnEmptyTapeAtNaught() {
    due(new SettledDots().end(0), 0);
  }

  @Sentence("The TAPE has its first n bytes: n")
  static void promise03BytesBehindTheEndAreNoLongerRead() {
    SettledDots dots = new SettledDots();
    Check.tape(dots, "row 1;row 2;xx");
    due(dots.end(6), 6);
    due(dots.picture(), 0);
    due(dots.about(3), 1);
  }

  @Sentence("NONE, doing nothing, if it has not so many, or n is below 0.")
  static void promise03EndBeyondTheBytesIsRefused() {
    SettledDots dots = withBytes(40);
    due(dots.end(41), NONE);
    due(dots.end(Boundary.MOST), NONE);
    due(dots.about(9), 40);
  }

  @Sentence("NONE, doing nothing, if it has not so many, or n is below 0.")
  static void promise03EndOfAnEmptyTapeAtOneIsRefused() {
    due(new SettledDots().end(1), NONE);
  }

  @Sentence("NONE, doing nothing, if it has not so many, or n is below 0.")
  static void promise03EndAtNineHundredAndOneIsRefused() {
    due(withBytes(900).end(901), NONE);
  }

  @Sentence("NONE, doing nothing, if it has not so many, or n is below 0.")
  static void promise03BytesThatWereCutOffDoNotCount() {
    SettledDots dots = withBytes(40);
    due(dots.end(5), 5);
    due(dots.end(6), NONE);
    due(dots.about(9), 5);
  }

  @Sentence("NONE, doing nothing, if it has not so many, or n is below 0.")
  static void promise03EndBelowNaughtIsRefused() {
    SettledDots dots = withBytes(40);
    due(dots.end(-1), NONE);
    due(dots.end(Boundary.LEAST), NONE);
    due(dots.about(9), 40);
  }
}
