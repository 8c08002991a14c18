import java.util.List;

/** Boundary cases of promise 4, and of the words of PICTURE that can be told without a FAULT. */
final class PictureBoundaries {
  private static final int NONE = Boundary.NONE;
  private static final String NINES = ("row " + "9".repeat(8) + ";").repeat(8);

  private PictureBoundaries() {
  }

  private static void due(long got, long want) {
    Boundary.due(got, want);
  }

  private static void size(String text, int width, int height) {
    SettledDots dots = Boundary.of(text);
    due(dots.about(0), width);
    due(dots.about(1), height);
    due(dots.cell(width - 1, height - 1, 0), 0);
    due(dots.cell(width, height - 1, 0), NONE);
    due(dots.cell(width - 1, height, 0), NONE);
  }

  /** A text behind another picture, told twice, so that nothing of either may be left. */
  private static SettledDots behind(String first, String second) {
    SettledDots dots = Boundary.of(first);
    Check.tape(dots, first);
    dots.picture();
    Check.tape(dots, second);
    Boundary.due(dots.picture() != NONE, true);
    return dots;
  }

  // ---- the text ----

  @Sentence("A PICTURE is a text of at most 900 bytes: [size N N ;] {line}")
  static void promise04EmptyTextIsAPicture() {
    SettledDots dots = new SettledDots();
    due(dots.picture(), 0);
    due(dots.fault(0), 0);
  }

  @Sentence("A PICTURE is a text of at most 900 bytes: [size N N ;] {line}")
  static void promise04TextOf900BytesIsRead() {
    String text = "row 1;" + " ".repeat(886) + "dot 7 7;";
    due(text.length(), 900);
    SettledDots dots = Boundary.of(text);
    due(dots.about(2), 1);
    Boundary.lies(dots, 0, 7, 7, 1);
  }

  @Sentence("A PICTURE is a text of at most 900 bytes: [size N N ;] {line}")
  static void promise04SizeAloneIsAPicture() {
    size("size 3 2;", 3, 2);
  }

  @Sentence("8 and 8 without")
  static void promise04WithoutASizeEightByEight() {
    SettledDots dots = behind("size 3 2;", "row 1;");
    due(dots.about(0), 8);
    due(dots.about(1), 8);
  }

  @Sentence("WIDTH, HEIGHT (1 .. 20;")
  static void promise04WidthOneIsTheLeast() {
    size("size 1 5;", 1, 5);
  }

  @Sentence("WIDTH, HEIGHT (1 .. 20;")
  static void promise04HeightOneIsTheLeast() {
    size("size 5 1;", 5, 1);
  }

  @Sentence("WIDTH, HEIGHT (1 .. 20;")
  static void promise04WidthTwentyIsTheMost() {
    size("size 20 5;", 20, 5);
  }

  @Sentence("WIDTH, HEIGHT (1 .. 20;")
  static void promise04HeightTwentyIsTheMost() {
    size("size 5 20;", 5, 20);
  }

  @Sentence("WIDTH, HEIGHT (1 .. 20;")
  static void promise04OneCellIsTheLeastPicture() {
    size("size 1 1;", 1, 1);
  }

  @Sentence("WIDTH, HEIGHT (1 .. 20;")
  static void promise04FourHundredCellsAreTheMost() {
    size("size 20 20;", 20, 20);
  }

  @Sentence("WEIGHTS (0 .. 9) of the next ROW of CELLS from the left, a digit each")
  static void promise04WeightsFromNaughtToNine() {
    SettledDots dots = Boundary.of("size 10 1;row 0123456789;");
    Boundary.weights(dots, "0123456789");
  }

  @Sentence("1 to WIDTH of them")
  static void promise04RowOfOneDigit() {
    Boundary.weights(Boundary.of("size 3 1;row 7;"), "700");
  }

  @Sentence("1 to WIDTH of them")
  static void promise04RowOfAsManyDigitsAsWidth() {
    Boundary.weights(Boundary.of("size 3 1;row 789;"), "789");
  }

  @Sentence("1 to WIDTH of them")
  static void promise04RowOfTwentyDigits() {
    SettledDots dots = Boundary.of("size 20 1;row 12345678901234567892;");
    due(dots.cell(19, 0, 0), 2);
    due(dots.about(3), 92);
  }

  @Sentence("those behind them 0; ROWS not told: all 0")
  static void promise04CellsBehindAShortRowAreNaught() {
    SettledDots dots = behind(NINES, "row 1234567;row 12345678;");
    due(dots.cell(6, 0, 0), 7);
    due(dots.cell(7, 0, 0), 0);
    due(dots.cell(0, 1, 0), 1);
  }

  @Sentence("those behind them 0; ROWS not told: all 0")
  static void promise04RowsThatAreNotToldAreNaught() {
    SettledDots dots = behind(NINES, ("row 1;").repeat(7));
    due(dots.cell(0, 6, 0), 1);
    due(dots.shade(0, 0), 57);
    due(dots.about(3), 7);
  }

  @Sentence("those behind them 0; ROWS not told: all 0")
  static void promise04NoRowToldAllAreNaught() {
    due(behind(NINES, "dot 0 0;").about(3), 0);
  }

  @Sentence("HEIGHT ROWS at most")
  static void promise04AsManyRowsAsHeight() {
    Boundary.weights(Boundary.of("size 2 3;row 1;row 2;row 34;"), "10", "20", "34");
  }

  @Sentence("HEIGHT ROWS at most")
  static void promise04TwentyRows() {
    SettledDots dots = Boundary.of("size 20 20;" + "row 00000000000000000009;".repeat(20));
    due(dots.about(3), 180);
    due(dots.cell(19, 19, 0), 9);
  }

  @Sentence("a DOT at a CELL (x below WIDTH, y below HEIGHT)")
  static void promise04DotAtTheFirstCell() {
    Boundary.lies(Boundary.of("size 3 2;dot 0 0;"), 0, 0, 0, 1);
  }

  @Sentence("a DOT at a CELL (x below WIDTH, y below HEIGHT)")
  static void promise04DotAtTheLastCell() {
    Boundary.lies(Boundary.of("size 20 3;dot 19 2;"), 0, 19, 2, 1);
    Boundary.lies(Boundary.of("size 3 20;dot 2 19;"), 0, 2, 19, 1);
  }

  @Sentence("40 DOTS at most, numbered as told")
  static void promise04FortyDotsAreTheMost() {
    SettledDots dots = Boundary.of("dot 0 0;".repeat(39) + "dot 7 6;");
    due(dots.about(2), 40);
    Boundary.lies(dots, 39, 7, 6, 1);
  }

  @Sentence("40 DOTS at most, numbered as told")
  static void promise04NoDotTold() {
    SettledDots dots = behind("dot 1 1;", "row 1;");
    due(dots.about(2), 0);
    due(dots.dot(0, 0), NONE);
  }

  @Sentence("40 DOTS at most, numbered as told")
  static void promise04DotsAmongRowsAreNumberedAsTold() {
    SettledDots dots = Boundary.of("dot 5 0;row 1;dot 3 0;row 2;dot 4 0;");
    Boundary.lies(dots, 0, 5, 0, 1);
    Boundary.lies(dots, 1, 3, 0, 1);
    Boundary.lies(dots, 2, 4, 0, 1);
    due(dots.cell(0, 1, 0), 2);
  }

  @Sentence("Blanks (32, 10) part them or not")
  static void promise04TextWithoutAnyBlankThatIsNotNeeded() {
    SettledDots dots = Boundary.of("size3 2;row12;dot2 1;row345;dot0 1;");
    Boundary.weights(dots, "120", "345");
    Boundary.lies(dots, 1, 0, 1, 1);
  }

  @Sentence("Blanks (32, 10) part them or not")
  static void promise04BlanksAheadOfAllBetweenAllAndBehindAll() {
    SettledDots dots = Boundary.of(" \n size\n3 \n 2 ; row\n12 ;\n dot 2\n1\n;\n\n  ");
    Boundary.weights(dots, "120", "000");
    Boundary.lies(dots, 0, 2, 1, 1);
  }

  @Sentence("Blanks (32, 10) part them or not")
  static void promise04BlanksAloneAreAPicture() {
    size(" \n", 8, 8);
  }

  // ---- what it does ----

  @Sentence("how many DOTS; NONE: a FAULT (all else stays).")
  static void promise04AnswersHowManyDots() {
    SettledDots dots = new SettledDots();
    Check.tape(dots, "dot 0 0;".repeat(40));
    due(dots.picture(), 40);
    Check.tape(dots, "size 1 1;");
    due(dots.picture(), 0);
  }

  @Sentence("The TAPE (empty then, also at a FAULT) is the PICTURE")
  static void promise04TheTapeIsEmptyThen() {
    SettledDots dots = Boundary.of("row 1;");
    due(dots.about(9), 0);
    due(dots.end(1), NONE);
    due(dots.picture(), 0);
    due(dots.about(3), 0);
  }

  @Sentence("The TAPE (empty then, also at a FAULT) is the PICTURE")
  static void promise04TheTapeIsEmptyAlsoAtAFault() {
    SettledDots dots = new SettledDots();
    Check.tape(dots, "row 1;?");
    due(dots.picture(), NONE);
    due(dots.about(9), 0);
    due(dots.end(1), NONE);
    due(dots.feed(0, 0, 0, 0, 0), 20);
  }

  @Sentence("(the seed is 0, no ACTS are kept, BOXES are empty)")
  static void promise04TheSeedIsNaughtThen() {
    SettledDots dots = new SettledDots();
    for (int i = 0; i < 3; i++) {
      due(dots.seed(5), 0);
      due(dots.picture(), 0);
      due(dots.about(6), 0);
    }
  }

  @Sentence("(the seed is 0, no ACTS are kept, BOXES are empty)")
  static void promise04NoActsToUndoAreKeptThen() {
    SettledDots dots = new SettledDots();
    dots.put(0, 0);
    dots.picture();
    due(dots.about(7), 0);
    Boundary.due(dots.undo(), false);
  }

  @Sentence("(the seed is 0, no ACTS are kept, BOXES are empty)")
  static void promise04NoActsToRedoAreKeptThen() {
    SettledDots dots = new SettledDots();
    dots.put(0, 0);
    dots.undo();
    dots.picture();
    due(dots.about(8), 0);
    Boundary.due(dots.redo(), false);
  }

  @Sentence("(the seed is 0, no ACTS are kept, BOXES are empty)")
  static void promise04BothBoxesAreEmptyThen() {
    SettledDots dots = new SettledDots();
    dots.image(0);
    dots.image(1);
    dots.picture();
    Boundary.none(dots.back(0), dots.back(1), dots.against(0, 1), dots.against(1, 1));
  }

  @Sentence("how many DOTS; NONE: a FAULT (all else stays).")
  static void promise04AtAFaultStepsAndBoxesAndActsStay() {
    staysAtAFault(Boundary.ladenWithSteps(), "?");
  }

  @Sentence("how many DOTS; NONE: a FAULT (all else stays).")
  static void promise04AtAFaultActsToRedoStay() {
    staysAtAFault(Boundary.ladenWithRedo(), "?");
  }

  @Sentence("how many DOTS; NONE: a FAULT (all else stays).")
  static void promise04AtAFaultOfTheLastByteNothingThatWasReadCounts() {
    staysAtAFault(Boundary.ladenWithSteps(), "size 2 4;row 99;row 88;dot 1 3;dot 0 0;dot 1 1");
  }

  private static void staysAtAFault(SettledDots dots, String text) {
    dots.end(0);
    List<Integer> ahead = Boundary.state(dots);
    Check.tape(dots, text);
    due(dots.picture(), NONE);
    List<Integer> then = Boundary.state(dots);
    // All but the last two, which are the FAULT and its place.
    int same = ahead.size() - 2;
    Boundary.due(then.size() == ahead.size()
        && then.subList(0, same).equals(ahead.subList(0, same)), true);
  }
}
