/** Boundary cases of promise 5: TOKENS, FAULTS and their places. */
final class FaultBoundaries {
  private static final int NONE = Boundary.NONE;

  private FaultBoundaries() {
  }

  private static void due(long got, long want) {
    Boundary.due(got, want);
  }

  private static void fault(String text, int fault, int place) {
    Boundary.faultOf(text, fault, place);
  }

  private static void reads(String text) {
    SettledDots dots = Boundary.of(text);
    due(dots.fault(0), 0);
    due(dots.fault(1), NONE);
  }

  /** A sign that can stand in no TOKEN, ahead of all, behind all, and within. */
  private static void noToken(int sign) {
    fault((char) sign + "row 1;", 1, 0);
    fault("row 1;" + (char) sign, 1, 6);
    fault("row" + (char) sign + "1;", 1, 3);
  }

  // ---- what fault() answers ----

  @Sentence("Of the latest picture() what 0: its FAULT (0), 1: its place (NONE).")
  static void promise05AheadOfAnyPictureThereIsNone() {
    due(new SettledDots().fault(0), 0);
    due(new SettledDots().fault(1), NONE);
  }

  @Sentence("Of the latest picture() what 0: its FAULT (0), 1: its place (NONE).")
  static void promise05BehindAPictureWithoutAFaultThereIsNone() {
    SettledDots dots = new SettledDots();
    Check.tape(dots, "row x");
    dots.picture();
    Check.tape(dots, "row 1;");
    due(dots.picture(), 0);
    due(dots.fault(0), 0);
    due(dots.fault(1), NONE);
  }

  @Sentence("Of the latest picture() what 0: its FAULT (0), 1: its place (NONE).")
  static void promise05OfTwoFaultyPicturesTheLatestCounts() {
    SettledDots dots = new SettledDots();
    Check.tape(dots, "row x");
    dots.picture();
    Check.tape(dots, "dot 0 8;");
    due(dots.picture(), NONE);
    due(dots.fault(0), 4);
    due(dots.fault(1), 6);
  }

  @Sentence("Of the latest picture() what 0: its FAULT (0), 1: its place (NONE).")
  static void promise05StaysBehindCallsThatAreNoPicture() {
    SettledDots dots = new SettledDots();
    Check.tape(dots, "row x");
    dots.picture();
    dots.feed(0, 0, 0, 0, 0);
    dots.put(0, 0);
    dots.undo();
    dots.image(0);
    dots.back(0);
    due(dots.fault(0), 2);
    due(dots.fault(1), 4);
  }

  @Sentence("NONE for another what.")
  static void promise05AnotherWhatIsNone() {
    SettledDots dots = new SettledDots();
    Check.tape(dots, "row 1;row x");
    dots.picture();
    Boundary.none(dots.fault(-1), dots.fault(2), dots.fault(Boundary.LEAST),
        dots.fault(Boundary.MOST));
  }

  // ---- tokens ----

  @Sentence("words (a .. z, 8 at most)")
  static void promise05SignsBesideAAndZAreNoToken() {
    noToken('a' - 1);
    noToken('z' + 1);
  }

  @Sentence("words (a .. z, 8 at most)")
  static void promise05CapitalsAreNoToken() {
    noToken('A');
    noToken('Z');
    fault("Row 1;", 1, 0);
    fault("roW 1;", 2, 0);
  }

  @Sentence("words (a .. z, 8 at most)")
  static void promise05WordOfEightLettersIsAToken() {
    fault("azazazaz", 2, 0);
    fault("row azazazaz", 2, 4);
  }

  @Sentence("words (a .. z, 8 at most)")
  static void promise05WordOfNineLettersIsNoToken() {
    fault("azazazaza", 1, 0);
    fault("row azazazaza", 1, 4);
  }

  @Sentence("numbers (digits, 20 at most)")
  static void promise05SignsBesideNaughtAndNineAreNoToken() {
    noToken('0' - 1);
    noToken('9' + 1);
  }

  @Sentence("numbers (digits, 20 at most)")
  static void promise05NumberOfTwentyDigitsIsAToken() {
    reads("size 20 1;row " + "1".repeat(20) + ";");
    fault("row " + "1".repeat(20) + ";", 4, 4);
  }

  @Sentence("numbers (digits, 20 at most)")
  static void promise05NumberOfTwentyOneDigitsIsNoToken() {
    fault("size 20 1;row " + "1".repeat(21) + ";", 1, 14);
    fault("dot " + "0".repeat(21) + " 0;", 1, 4);
  }

  @Sentence("the sign ;.")
  static void promise05SignsBesideTheSignAreNoToken() {
    noToken('<');
    noToken(',');
    noToken('-');
    noToken('.');
  }

  @Sentence("Blanks (32, 10) part them or not")
  static void promise05OtherWhiteSignsAreNoToken() {
    for (int sign : new int[] {0, 9, 11, 12, 13, 31, 33, 127, 128, 160, 255}) {
      noToken(sign);
    }
  }

  @Sentence("each is as long as can be")
  static void promise05LettersSideBySideAreOneWord() {
    fault("rowdot 1 1;", 2, 0);
    fault("rowsize", 2, 0);
    fault("dots 1 1;", 2, 0);
    fault("sizes 1 1;", 2, 0);
  }

  @Sentence("line = row DIGITS ; | dot N N ;.")
  static void promise05WordsThatDifferByOneLetterCantStandThere() {
    for (String word : new String[] {"bow", "raw", "rot", "cot", "dit", "dog", "gize", "saze", "sine",
        "sizy", "ro", "do", "siz", "ow", "ot", "ize", "a", "z"}) {
      fault(word + " 1 1;", 2, 0);
    }
  }

  @Sentence("each is as long as can be")
  static void promise05DigitsSideBySideAreOneNumber() {
    fault("size 20 20;dot 11;", 2, 17);
    fault("size 88;", 4, 5);
  }

  @Sentence("each is as long as can be")
  static void promise05BlanksPartAWordAndANumber() {
    fault("ro w 1;", 2, 0);
    fault("row 1 1;", 2, 6);
    fault("size 2 0 1;", 4, 7);
  }

  @Sentence("no letter directly behind a digit.")
  static void promise05LetterDirectlyBehindADigitIsNoToken() {
    fault("row 1a;", 1, 4);
    fault("row 123z;", 1, 4);
    fault("dot 0 0row 1;", 1, 6);
  }

  @Sentence("no letter directly behind a digit.")
  static void promise05LetterBehindADigitAndABlankIsAToken() {
    fault("row 1 a;", 2, 6);
    fault("row 1\na;", 2, 6);
  }

  @Sentence("no letter directly behind a digit.")
  static void promise05DigitDirectlyBehindALetterIsAToken() {
    reads("row1;dot7 7;");
  }

  @Sentence("no letter directly behind a digit.")
  static void promise05LetterThatEndCutOffIsBehindNoDigit() {
    SettledDots dots = new SettledDots();
    Check.tape(dots, "row 1;dot 0 0a");
    due(dots.end(13), 13);
    due(dots.picture(), NONE);
    due(dots.fault(0), 2);
    due(dots.fault(1), 13);
  }

  // ---- places ----

  @Sentence("the first by its place (bytes from 0; the end: the text's length)")
  static void promise05FirstByteIsPlaceNaught() {
    fault("?", 1, 0);
    fault(";", 2, 0);
    fault("1", 2, 0);
  }

  @Sentence("the first by its place (bytes from 0; the end: the text's length)")
  static void promise05OfTwoFaultsTheFirstByPlaceCounts() {
    fault("dot 8 0;?", 4, 4);
    fault("row 1;row;?", 2, 9);
    fault("size 1 1;row 1;row 1;?", 3, 15);
    fault("?dot 8 0;", 1, 0);
    fault("dot 8 8;", 4, 4);
  }

  @Sentence("the first by its place (bytes from 0; the end: the text's length)")
  static void promise05AtTheEndThePlaceIsTheLength() {
    fault("size", 2, 4);
    fault("size 8", 2, 6);
    fault("size 8 8", 2, 8);
    fault("row", 2, 3);
    fault("row 1", 2, 5);
    fault("dot", 2, 3);
    fault("dot 1", 2, 5);
    fault("dot 1 1", 2, 7);
  }

  @Sentence("the first by its place (bytes from 0; the end: the text's length)")
  static void promise05BlanksAtTheEndCountToTheLength() {
    fault("row 1 \n ", 2, 8);
  }

  @Sentence("the first by its place (bytes from 0; the end: the text's length)")
  static void promise05AtTheEndOf900BytesThePlaceIs900() {
    fault("row 1;" + " ".repeat(887) + "dot 7 7", 2, 900);
  }

  @Sentence("at one place the least")
  static void promise05NoTokenCountsOverOneThatCantStandThere() {
    fault("5a", 1, 0);
    fault("row 1 2a;", 1, 6);
    fault("abcdefghi", 1, 0);
  }

  @Sentence("at one place the least")
  static void promise05NoTokenCountsOverANumberThatCantBe() {
    fault("dot 99a 0;", 1, 4);
    fault("row 123456789a;", 1, 4);
    fault("row " + "1".repeat(21) + ";", 1, 4);
  }

  @Sentence("at one place the least")
  static void promise05OneThatCantStandThereCountsOverANumberThatCantBe() {
    fault("dot 0 0 99999;", 2, 8);
    fault("size 8 8 99999;", 2, 9);
    fault("99999", 2, 0);
  }

  // ---- faults 2 to 4 ----

  @Sentence("2 one that can't stand there (size behind a line)")
  static void promise05SizeBehindALineCantStandThere() {
    fault("row 1;size 8 8;", 2, 6);
    fault("dot 1 1;size 8 8;", 2, 8);
  }

  @Sentence("2 one that can't stand there (size behind a line)")
  static void promise05SecondSizeCantStandThere() {
    fault("size 8 8;size 8 8;", 2, 9);
  }

  @Sentence("line = row DIGITS ; | dot N N ;.")
  static void promise05RowWithoutADigitCantBe() {
    fault("row;", 2, 3);
    fault("row ;", 2, 4);
  }

  @Sentence("line = row DIGITS ; | dot N N ;.")
  static void promise05RowOfTwoNumbersCantBe() {
    fault("row 1 1;", 2, 6);
  }

  @Sentence("line = row DIGITS ; | dot N N ;.")
  static void promise05DotOfOneNumberOrThreeCantBe() {
    fault("dot ;", 2, 4);
    fault("dot 1;", 2, 5);
    fault("dot 1 1 1;", 2, 8);
  }

  @Sentence("[size N N ;]")
  static void promise05SizeOfOneNumberOrThreeCantBe() {
    fault("size ;", 2, 5);
    fault("size 1;", 2, 6);
    fault("size 1 1 1;", 2, 9);
  }

  @Sentence("line = row DIGITS ; | dot N N ;.")
  static void promise05SignAloneIsNoLine() {
    fault(";", 2, 0);
    fault("row 1;;", 2, 6);
    fault("size 8 8;;", 2, 9);
  }

  @Sentence("3 a ROW, a DOT too many (at that word)")
  static void promise05NinthRowOfEightIsTooMany() {
    reads("row 1;".repeat(8));
    fault("row 1;".repeat(8) + "row 1;", 3, 48);
  }

  @Sentence("3 a ROW, a DOT too many (at that word)")
  static void promise05SecondRowOfOneIsTooMany() {
    fault("size 8 1;row 1;dot 0 0;row 1;", 3, 23);
  }

  @Sentence("3 a ROW, a DOT too many (at that word)")
  static void promise05TwentyFirstRowOfTwentyIsTooMany() {
    fault("size 20 20;" + "row 1;".repeat(21), 3, 131);
  }

  @Sentence("3 a ROW, a DOT too many (at that word)")
  static void promise05FortyFirstDotIsTooMany() {
    reads("dot 0 0;".repeat(40));
    fault("dot 0 0;".repeat(41), 3, 320);
  }

  @Sentence("3 a ROW, a DOT too many (at that word)")
  static void promise05WhatIsBehindAWordTooManyDoesNotCount() {
    fault("row 1;".repeat(8) + "row", 3, 48);
    fault("row 1;".repeat(8) + "row?", 3, 48);
    fault("dot 0 0;".repeat(40) + "dot 99 99;", 3, 320);
  }

  @Sentence("3 a ROW, a DOT too many (at that word)")
  static void promise05RowsDoNotCountAsDotsNorDotsAsRows() {
    reads("size 1 20;" + "row 1;dot 0 0;".repeat(20) + "dot 0 0;".repeat(20));
  }

  @Sentence("WIDTH, HEIGHT (1 .. 20;")
  static void promise05WidthNaughtCantBe() {
    fault("size 0 8;", 4, 5);
  }

  @Sentence("WIDTH, HEIGHT (1 .. 20;")
  static void promise05WidthTwentyOneCantBe() {
    fault("size 21 8;", 4, 5);
  }

  @Sentence("WIDTH, HEIGHT (1 .. 20;")
  static void promise05HeightNaughtCantBe() {
    fault("size 8 0;", 4, 7);
  }

  @Sentence("WIDTH, HEIGHT (1 .. 20;")
  static void promise05HeightTwentyOneCantBe() {
    fault("size 8 21;", 4, 7);
  }

  @Sentence("a DOT at a CELL (x below WIDTH, y below HEIGHT)")
  static void promise05DotAtXOfWidthCantBe() {
    fault("size 3 9;dot 3 0;", 4, 13);
  }

  @Sentence("a DOT at a CELL (x below WIDTH, y below HEIGHT)")
  static void promise05DotAtYOfHeightCantBe() {
    fault("size 9 3;dot 0 3;", 4, 15);
  }

  @Sentence("a DOT at a CELL (x below WIDTH, y below HEIGHT)")
  static void promise05DotBesideTwentyByTwentyCantBe() {
    fault("size 20 20;dot 20 0;", 4, 15);
    fault("size 20 20;dot 0 20;", 4, 17);
  }

  @Sentence("(more digits than WIDTH, too; one of more than 4 digits that is no ROW), at its first digit.")
  static void promise05OneDigitMoreThanWidthCantBe() {
    fault("row 123456789;", 4, 4);
    fault("size 1 1;row 12;", 4, 13);
    fault("size 19 1;row " + "1".repeat(20) + ";", 4, 14);
  }

  @Sentence("(more digits than WIDTH, too; one of more than 4 digits that is no ROW), at its first digit.")
  static void promise05NumberOfFourDigitsCanBe() {
    SettledDots dots = Boundary.of("size 0012 0003;dot 0011 0002;");
    due(dots.about(0), 12);
    due(dots.about(1), 3);
    Boundary.lies(dots, 0, 11, 2, 1);
  }

  @Sentence("(more digits than WIDTH, too; one of more than 4 digits that is no ROW), at its first digit.")
  static void promise05NumberOfFiveDigitsCantBe() {
    fault("size 00012 3;", 4, 5);
    fault("size 12 00003;", 4, 8);
    fault("dot 00001 2;", 4, 4);
    fault("dot 1 00002;", 4, 6);
  }

  @Sentence("(more digits than WIDTH, too; one of more than 4 digits that is no ROW), at its first digit.")
  static void promise05RowOfFiveDigitsCanBe() {
    Boundary.weights(Boundary.of("size 5 1;row 00001;"), "00001");
  }

  @Sentence("(more digits than WIDTH, too; one of more than 4 digits that is no ROW), at its first digit.")
  static void promise05NumberThatWouldWrapAroundCantBe() {
    // 4294967297 and 18446744073709551617 are 1, if cut to 32 or 64 bits.
    fault("size 4294967297 1;", 4, 5);
    fault("dot 18446744073709551617 1;", 4, 4);
  }
}
