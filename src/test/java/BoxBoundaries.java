import java.util.List;

/** Boundary cases of promises 39 to 44: tone, uneven, pictures that are kept, about. */
final class BoxBoundaries {
  private static final int NONE = Boundary.NONE;
  private static final int LEAST = Boundary.LEAST;
  private static final int MOST = Boundary.MOST;
  private static final String NINES = "size20 20;" + ("row" + "9".repeat(20) + ";").repeat(20);

  private BoxBoundaries() {
  }

  private static void due(long got, long want) {
    Boundary.due(got, want);
  }

  private static void due(boolean got, boolean want) {
    Boundary.due(got, want);
  }

  // ---- promise 39 ----

  private static final String TONE =
      "WEIGHTS of CELLS from x, y to right, down (both ends, too) together what 0";

  @Sentence(TONE)
  static void promise39ToneOfOneCell() {
    SettledDots dots = Boundary.of(Boundary.LADEN);
    due(dots.tone(0, 0, 0, 0, 0), 1);
    due(dots.tone(2, 1, 2, 1, 0), 6);
    due(dots.tone(2, 1, 2, 1, 1), 1);
    due(dots.tone(1, 1, 1, 1, 1), 0);
  }

  @Sentence(TONE)
  static void promise39ToneOfAll() {
    SettledDots dots = Boundary.of(Boundary.LADEN);
    due(dots.tone(0, 0, 2, 1, 0), 21);
    due(dots.tone(0, 0, 2, 1, 1), 2);
    due(Boundary.of(NINES).tone(0, 0, 19, 19, 0), 3600);
  }

  @Sentence(TONE)
  static void promise39BothEndsAreCounted() {
    SettledDots dots = Boundary.of(Boundary.LADEN);
    due(dots.tone(0, 0, 1, 0, 0), 3);
    due(dots.tone(1, 0, 2, 0, 0), 5);
    due(dots.tone(2, 0, 2, 1, 0), 9);
    due(dots.tone(0, 1, 2, 1, 0), 15);
  }

  @Sentence("how many DOTS have their SPOT among them, 1")
  static void promise39SpotsAtBothEndsAreCounted() {
    SettledDots dots = Boundary.of(Boundary.LADEN);
    due(dots.tone(0, 0, 1, 1, 1), 1);
    due(dots.tone(1, 0, 2, 1, 1), 1);
    due(dots.tone(0, 0, 2, 0, 1), 1);
    due(dots.tone(0, 1, 2, 1, 1), 1);
    due(dots.tone(1, 0, 1, 1, 1), 0);
  }

  @Sentence("how many DOTS have their SPOT among them, 1")
  static void promise39WithoutDotsNoneHasItsSpotThere() {
    due(new SettledDots().tone(0, 0, 7, 7, 1), 0);
  }

  @Sentence("NONE if that can't be, or for another what.")
  static void promise39RightBelowXIsNone() {
    SettledDots dots = Boundary.of(Boundary.LADEN);
    Boundary.none(dots.tone(2, 0, 1, 1, 0), dots.tone(1, 0, 0, 0, 1));
  }

  @Sentence("NONE if that can't be, or for another what.")
  static void promise39DownBelowYIsNone() {
    SettledDots dots = Boundary.of(Boundary.LADEN);
    Boundary.none(dots.tone(0, 1, 2, 0, 0), dots.tone(0, 1, 0, 0, 1));
  }

  @Sentence("NONE if that can't be, or for another what.")
  static void promise39EndsOutsideThePictureAreNone() {
    SettledDots dots = Boundary.of(Boundary.LADEN);
    for (int what = 0; what < 2; what++) {
      Boundary.none(dots.tone(-1, 0, 2, 1, what), dots.tone(0, -1, 2, 1, what),
          dots.tone(0, 0, 3, 1, what), dots.tone(0, 0, 2, 2, what), dots.tone(3, 0, 3, 0, what),
          dots.tone(0, 2, 0, 2, what), dots.tone(LEAST, 0, 2, 1, what),
          dots.tone(0, LEAST, 2, 1, what), dots.tone(0, 0, MOST, 1, what),
          dots.tone(0, 0, 2, MOST, what));
    }
  }

  @Sentence("NONE if that can't be, or for another what.")
  static void promise39AnotherWhatIsNone() {
    SettledDots dots = Boundary.of(Boundary.LADEN);
    Boundary.none(dots.tone(0, 0, 2, 1, -1), dots.tone(0, 0, 2, 1, 2),
        dots.tone(0, 0, 2, 1, LEAST), dots.tone(0, 0, 2, 1, MOST));
  }

  // ---- promise 40 ----

  private static final String UNEVEN = "Of all squares of n by n CELLS (n 1 .. 20) that by which DOTS there "
      + "* all WEIGHTS and WEIGHTS there * all DOTS are furthest apart";

  private static void uneven(SettledDots dots, int n, int number, int much) {
    due(dots.uneven(n, 0), number);
    due(dots.uneven(n, 1), much);
  }

  @Sentence(UNEVEN)
  static void promise40SquareOfOneCellIsTheLeast() {
    // 1 * 36 less 9 at the dot's cell, 0 less 9 at the others.
    uneven(Boundary.of("size 2 2;row 99;row 99;dot 1 1;"), 1, 3, 27);
  }

  @Sentence(UNEVEN)
  static void promise40SquareOfTwentyIsTheMost() {
    uneven(Boundary.of(NINES + "dot0 0;"), 20, 0, 0);
    uneven(Boundary.of(NINES + "dot0 0;"), 19, 1, -3249);
  }

  @Sentence(UNEVEN)
  static void promise40SquareAsLargeAsTheLesserSide() {
    // Four squares of 2 by 2: 18, 18, 18 less 18, and 0 less 36.
    uneven(Boundary.of("size 5 2;row 00099;dot 0 0;dot 2 0;"), 2, 3, -36);
    uneven(Boundary.of("size 2 5;row 0;row 0;row 0;row 9;row 9;dot 0 0;dot 0 2;"), 2, 6, -36);
  }

  @Sentence(UNEVEN)
  static void promise40FortyDotsAtOneCellAreTheMost() {
    // 40 * 3600 less 9 * 40.
    uneven(Boundary.of(NINES + "dot19 19;".repeat(40)), 1, 399, 143640);
  }

  @Sentence("of like ones the least NUMBER of its first CELL, what 0: that")
  static void promise40OfLikeSquaresTheLeastNumber() {
    // 1 * 2 less 1 * 1 where the dot is, 0 less 1 * 1 at the other cell: like ones.
    uneven(Boundary.of("size 2 1;row 11;dot 1 0;"), 1, 0, -1);
    uneven(Boundary.of("size 2 1;row 11;dot 0 0;"), 1, 0, 1);
  }

  @Sentence("of like ones the least NUMBER of its first CELL, what 0: that")
  static void promise40LastSquareHasTheNumberOfItsFirstCell() {
    // Squares of 2 in 3 by 3 begin at 0, 1, 3 and 4.
    uneven(Boundary.of("size 3 3;row 100;row 000;row 009;dot 1 0;"), 2, 1, 10);
    uneven(Boundary.of("size 3 3;row 000;row 000;row 009;dot 0 0;"), 2, 0, 9);
    uneven(Boundary.of("size 3 3;row 100;row 000;row 009;dot 0 0;dot 0 2;"), 2, 4, -18);
  }

  @Sentence("1: by how much (more DOTS: above 0)")
  static void promise40TooManyDotsAreAboveNaughtTooFewBelow() {
    uneven(Boundary.of("size 2 1;row 19;dot 0 0;"), 1, 0, 9);
    uneven(Boundary.of("size 3 1;row 119;dot 0 0;dot 1 0;"), 1, 2, -18);
  }

  @Sentence("1: by how much (more DOTS: above 0)")
  static void promise40DotBetweenCellsIsWhereItsSpotIs() {
    SettledDots dots = Boundary.of("size 2 1;row 11;dot 1 0;");
    dots.rounds(1);
    uneven(dots, 1, 0, 1);
  }

  @Sentence("1: by how much (more DOTS: above 0)")
  static void promise40WithoutDotsOrWithoutWeightsNothingIsUneven() {
    uneven(Boundary.of("size 3 2;row 123;"), 1, 0, 0);
    uneven(Boundary.of("size 3 2;dot 2 1;"), 1, 0, 0);
  }

  @Sentence("Integer.MIN_VALUE if there is none, or for another what.")
  static void promise40SquareWiderThanThePictureIsNone() {
    SettledDots dots = Boundary.of("size 2 5;row 12;dot 0 0;");
    due(dots.uneven(3, 0), LEAST);
    due(dots.uneven(3, 1), LEAST);
  }

  @Sentence("Integer.MIN_VALUE if there is none, or for another what.")
  static void promise40SquareHigherThanThePictureIsNone() {
    SettledDots dots = Boundary.of("size 5 2;row 12;dot 0 0;");
    due(dots.uneven(3, 0), LEAST);
    due(dots.uneven(3, 1), LEAST);
  }

  @Sentence("Integer.MIN_VALUE if there is none, or for another what.")
  static void promise40OtherSizesOfSquaresAreNone() {
    SettledDots dots = Boundary.of(NINES + "dot0 0;");
    for (int what = 0; what < 2; what++) {
      due(dots.uneven(0, what), LEAST);
      due(dots.uneven(-1, what), LEAST);
      due(dots.uneven(21, what), LEAST);
      due(dots.uneven(LEAST, what), LEAST);
      due(dots.uneven(MOST, what), LEAST);
    }
  }

  @Sentence("Integer.MIN_VALUE if there is none, or for another what.")
  static void promise40AnotherWhatIsNone() {
    SettledDots dots = Boundary.of(Boundary.LADEN);
    for (int what : new int[] {-1, 2, LEAST, MOST}) {
      due(dots.uneven(1, what), LEAST);
    }
  }

  // ---- promise 41 ----

  private static final String AGAINST = "How many CELLS have an OWNER of which another number than in a "
      + "BOX (what 0), another WEIGHT (1), how many DOTS of both (by number) lie elsewhere (2)";

  private static void against(SettledDots dots, int box, int owners, int weights, int lie) {
    due(dots.against(box, 0), owners);
    due(dots.against(box, 1), weights);
    due(dots.against(box, 2), lie);
  }

  @Sentence(AGAINST)
  static void promise41AgainstItselfIsNaught() {
    SettledDots dots = Boundary.of(Boundary.LADEN);
    dots.image(0);
    against(dots, 0, 0, 0, 0);
  }

  @Sentence(AGAINST)
  static void promise41AllCellsAndAllDots() {
    SettledDots dots = Boundary.of("size 2 1;row 12;dot 0 0;dot 1 0;");
    dots.image(1);
    dots.move(0, 1, 0);
    dots.move(1, 0, 0);
    dots.paint(0, 0, 2);
    dots.paint(1, 0, 1);
    against(dots, 1, 2, 2, 2);
  }

  @Sentence(AGAINST)
  static void promise41DotsThatOnlyOneHasDoNotCountAsElsewhere() {
    SettledDots dots = Boundary.of("size 2 1;dot 0 0;");
    dots.image(0);
    dots.put(1, 0);
    against(dots, 0, 1, 0, 0);
    dots.image(1);
    dots.take(1);
    against(dots, 1, 1, 0, 0);
    against(dots, 0, 0, 0, 0);
  }

  @Sentence(AGAINST)
  static void promise41DotThatWasMovedAndThenTakenDoesNotCount() {
    SettledDots dots = Boundary.of("size 3 1;dot 0 0;dot 2 0;");
    dots.image(0);
    dots.move(1, 1, 0);
    due(dots.against(0, 2), 1);
    dots.take(1);
    due(dots.against(0, 2), 0);
  }

  @Sentence(AGAINST)
  static void promise41AllOfTheGreatestPicture() {
    SettledDots dots = Boundary.of(NINES + "dot19 19;".repeat(40));
    dots.image(0);
    against(dots, 0, 0, 0, 0);
    dots.move(0, 0, 0);
    // Dot 1 owns the cells below the middle.
    against(dots, 0, 190, 0, 1);
    dots.paint(19, 19, 0);
    due(dots.against(0, 1), 1);
    dots.turn();
    dots.turn();
    // Dot 0 is where it was, the others in the corner where it had been put.
    against(dots, 0, 190, 1, 39);
  }

  @Sentence(AGAINST)
  static void promise41AnotherDividerAloneIsElsewhere() {
    // At 1 / 2 and at 1: X is one number.
    SettledDots dots = Boundary.of("size 2 1;row 11;dot 0 0;");
    dots.rounds(1);
    dots.image(0);
    dots.move(0, 1, 0);
    against(dots, 0, 0, 0, 1);
  }

  @Sentence(AGAINST)
  static void promise41WithoutDotsInBoth() {
    SettledDots dots = Boundary.of("size 2 1;row 12;");
    dots.image(0);
    dots.paint(1, 0, 0);
    against(dots, 0, 0, 1, 0);
  }

  @Sentence("NONE if sizes are unlike, nothing was kept, there is no such BOX, or for another what.")
  static void promise41UnlikeSizesAreNone() {
    SettledDots dots = Boundary.of(Boundary.LADEN);
    dots.image(0);
    dots.turn();
    Boundary.none(dots.against(0, 0), dots.against(0, 1), dots.against(0, 2));
    dots.turn();
    due(dots.against(0, 1), 6);
  }

  @Sentence("NONE if sizes are unlike, nothing was kept, there is no such BOX, or for another what.")
  static void promise41NothingKeptIsNone() {
    SettledDots dots = Boundary.of(Boundary.LADEN);
    dots.image(1);
    Boundary.none(dots.against(0, 0), dots.against(0, 1), dots.against(0, 2));
    due(dots.against(1, 0), 0);
  }

  @Sentence("NONE if sizes are unlike, nothing was kept, there is no such BOX, or for another what.")
  static void promise41NoSuchBoxIsNone() {
    SettledDots dots = Boundary.of(Boundary.LADEN);
    dots.image(0);
    dots.image(1);
    Boundary.none(dots.against(-1, 0), dots.against(2, 0), dots.against(LEAST, 1),
        dots.against(MOST, 2));
  }

  @Sentence("NONE if sizes are unlike, nothing was kept, there is no such BOX, or for another what.")
  static void promise41AnotherWhatIsNone() {
    SettledDots dots = Boundary.of(Boundary.LADEN);
    dots.image(0);
    Boundary.none(dots.against(0, -1), dots.against(0, 3), dots.against(0, LEAST),
        dots.against(0, MOST));
  }

  // ---- promise 42 ----

  @Sentence("The PICTURE (DOTS, WEIGHTS, the seed) is kept in a BOX 0, 1: DOTS")
  static void promise42BothBoxesKeepAPictureEach() {
    SettledDots dots = Boundary.of("size 2 1;row 12;dot 0 0;");
    due(dots.image(0), 1);
    dots.put(1, 0);
    dots.paint(0, 0, 9);
    due(dots.image(1), 2);
    due(dots.back(0), 1);
    Boundary.weights(dots, "12");
    due(dots.back(1), 2);
    Boundary.weights(dots, "92");
  }

  @Sentence("The PICTURE (DOTS, WEIGHTS, the seed) is kept in a BOX 0, 1: DOTS")
  static void promise42ImageWithoutDotsAndWithForty() {
    SettledDots dots = new SettledDots();
    due(dots.image(0), 0);
    due(Boundary.of("dot 0 0;".repeat(40)).image(1), 40);
  }

  @Sentence("The PICTURE (DOTS, WEIGHTS, the seed) is kept in a BOX 0, 1: DOTS")
  static void promise42SecondImageTakesThePlaceOfTheFirst() {
    SettledDots dots = Boundary.of("size 2 1;row 12;dot 0 0;");
    dots.seed(3);
    dots.image(0);
    dots.seed(4);
    dots.put(1, 0);
    due(dots.image(0), 2);
    dots.undo();
    due(dots.back(0), 2);
    due(dots.about(6), 4);
  }

  @Sentence("NONE if there is none such.")
  static void promise42NoSuchBoxIsRefused() {
    Boundary.refused(d -> d.image(-1));
    Boundary.refused(d -> d.image(2));
    Boundary.refused(d -> d.image(LEAST));
    Boundary.refused(d -> d.image(MOST));
  }

  // ---- promise 43 ----

  @Sentence("All is as it was kept (no ACTS are kept then): likewise")
  static void promise43DotsAndWeightsAndSeedAndSizeAreAsKept() {
    SettledDots dots = Boundary.of(Boundary.LADEN);
    dots.seed(77);
    dots.rounds(1);
    List<Integer> kept = Boundary.picture(dots);
    dots.image(0);
    dots.seed(5);
    dots.turn();
    dots.paint(0, 0, 9);
    dots.take(0);
    due(dots.back(0), 2);
    due(Boundary.picture(dots).equals(kept), true);
  }

  @Sentence("All is as it was kept (no ACTS are kept then): likewise")
  static void promise43NoActsAreKeptThen() {
    SettledDots dots = Boundary.of(Boundary.LADEN);
    dots.image(0);
    dots.put(1, 1);
    dots.put(1, 1);
    dots.undo();
    due(dots.back(0), 2);
    due(dots.about(7), 0);
    due(dots.about(8), 0);
    due(dots.undo(), false);
    due(dots.redo(), false);
  }

  @Sentence("All is as it was kept (no ACTS are kept then): likewise")
  static void promise43BytesOnTheTapeAreNotKept() {
    SettledDots dots = Boundary.of(Boundary.LADEN);
    dots.feed(0, 0, 0, 0, 0);
    dots.image(0);
    dots.feed(0, 0, 0, 0, 0);
    due(dots.back(0), 2);
    due(dots.about(9), 40);
  }

  @Sentence("All is as it was kept (no ACTS are kept then): likewise")
  static void promise43BoxesStayThen() {
    SettledDots dots = Boundary.of(Boundary.LADEN);
    dots.image(0);
    dots.put(1, 1);
    dots.image(1);
    due(dots.back(0), 2);
    dots.paint(0, 0, 9);
    due(dots.back(0), 2);
    due(dots.cell(0, 0, 0), 1);
    due(dots.back(1), 3);
  }

  @Sentence("All is as it was kept (no ACTS are kept then): likewise")
  static void promise43BackToAPictureWithoutDots() {
    SettledDots dots = Boundary.of("size 2 1;row 12;");
    dots.image(1);
    dots.put(0, 0);
    due(dots.back(1), 0);
    due(dots.dot(0, 0), NONE);
    due(dots.about(4), 0);
  }

  @Sentence("NONE, doing nothing, if nothing was, or there is no such BOX.")
  static void promise43NothingKeptIsRefused() {
    Boundary.refusedOn(Boundary.ladenWithSteps(), d -> d.back(1));
    Boundary.refusedOn(Boundary.ladenWithRedo(), d -> d.back(0));
    Boundary.none(new SettledDots().back(0), new SettledDots().back(1));
  }

  @Sentence("NONE, doing nothing, if nothing was, or there is no such BOX.")
  static void promise43NoSuchBoxIsRefused() {
    Boundary.refused(d -> d.back(-1));
    Boundary.refused(d -> d.back(2));
    Boundary.refused(d -> d.back(LEAST));
    Boundary.refused(d -> d.back(MOST));
  }

  // ---- promise 44 ----

  private static final String ABOUT = "What 0: WIDTH, 1: HEIGHT, 2: DOTS, 3: all WEIGHTS together, "
      + "4: COST, 5: EMPTY DOTS, 6: the seed, 7: ACTS that can be undone, 8: redone, 9: bytes on the TAPE.";

  @Sentence(ABOUT)
  static void promise44OfTheLeastPicture() {
    int[] answers = {1, 1, 0, 0, 0, 0, 0, 0, 0, 0};
    SettledDots dots = Boundary.of("size 1 1;");
    for (int what = 0; what < 10; what++) {
      due(dots.about(what), answers[what]);
    }
  }

  @Sentence(ABOUT)
  static void promise44OfTheGreatestPicture() {
    SettledDots dots = Boundary.of(NINES + "dot0 0;".repeat(40));
    dots.seed(MOST);
    int[] answers = {20, 20, 40, 3600, 889200000, 39, MOST, 0, 0, 0};
    for (int what = 0; what < 10; what++) {
      due(dots.about(what), answers[what]);
    }
  }

  @Sentence(ABOUT)
  static void promise44EmptyDotsAreThoseWithoutALoad() {
    due(Boundary.of("size 3 1;row 100;dot 0 0;dot 2 0;").about(5), 1);
    due(Boundary.of("dot 0 0;".repeat(40)).about(5), 40);
    due(new SettledDots().about(5), 0);
  }

  @Sentence(ABOUT)
  static void promise44NoMoreThanTwelveActs() {
    SettledDots dots = new SettledDots();
    for (int i = 1; i <= 15; i++) {
      dots.put(0, 0);
      due(dots.about(7), Math.min(i, 12));
    }
    for (int i = 1; i <= 15; i++) {
      dots.undo();
      due(dots.about(8), Math.min(i, 12));
    }
    due(dots.about(7), 0);
  }

  @Sentence(ABOUT)
  static void promise44NoMoreThanNineHundredBytes() {
    SettledDots dots = new SettledDots();
    for (int i = 1; i <= 50; i++) {
      dots.feed(0, 0, 0, 0, 0);
      due(dots.about(9), Math.min(20 * i, 900));
    }
  }

  @Sentence("NONE for another what.")
  static void promise44AnotherWhatIsNone() {
    SettledDots dots = Boundary.of(Boundary.LADEN);
    Boundary.none(dots.about(-1), dots.about(10), dots.about(LEAST), dots.about(MOST));
  }
}
