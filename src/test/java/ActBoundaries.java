/** Boundary cases of promises 6 to 11: dots put, taken, moved, drawn; the seed; cells painted. */
final class ActBoundaries {
  private static final int NONE = Boundary.NONE;
  private static final int LEAST = Boundary.LEAST;
  private static final int MOST = Boundary.MOST;
  private static final String FORTY = "dot 0 0;".repeat(40);

  private ActBoundaries() {
  }

  private static void due(long got, long want) {
    Boundary.due(got, want);
  }

  private static void due(boolean got, boolean want) {
    Boundary.due(got, want);
  }

  // ---- promise 6 ----

  @Sentence("A DOT more at a CELL: its number")
  static void promise06PutAtTheFirstCellAndTheLast() {
    SettledDots dots = Boundary.of("size 3 2;");
    due(dots.put(0, 0), 0);
    due(dots.put(2, 1), 1);
    Boundary.lies(dots, 0, 0, 0, 1);
    Boundary.lies(dots, 1, 2, 1, 1);
  }

  @Sentence("A DOT more at a CELL: its number")
  static void promise06PutWhereADotLies() {
    SettledDots dots = Boundary.of("size 1 1;dot 0 0;");
    due(dots.put(0, 0), 1);
    due(dots.about(2), 2);
  }

  @Sentence("NONE, doing nothing, if it can't be, or there are 40.")
  static void promise06PutLeftOfThePictureIsRefused() {
    Boundary.refused(d -> d.put(-1, 1));
    Boundary.refused(d -> d.put(LEAST, 0));
  }

  @Sentence("NONE, doing nothing, if it can't be, or there are 40.")
  static void promise06PutRightOfThePictureIsRefused() {
    Boundary.refused(d -> d.put(3, 0));
    Boundary.refused(d -> d.put(MOST, 0));
  }

  @Sentence("NONE, doing nothing, if it can't be, or there are 40.")
  static void promise06PutAboveThePictureIsRefused() {
    Boundary.refused(d -> d.put(0, -1));
    Boundary.refused(d -> d.put(0, LEAST));
  }

  @Sentence("NONE, doing nothing, if it can't be, or there are 40.")
  static void promise06PutBelowThePictureIsRefused() {
    Boundary.refused(d -> d.put(2, 2));
    Boundary.refused(d -> d.put(0, MOST));
  }

  @Sentence("NONE, doing nothing, if it can't be, or there are 40.")
  static void promise06TheFortiethDotIsPut() {
    SettledDots dots = Boundary.of("dot 0 0;".repeat(39));
    due(dots.put(7, 7), 39);
    due(dots.about(2), 40);
  }

  @Sentence("NONE, doing nothing, if it can't be, or there are 40.")
  static void promise06TheFortyFirstDotIsRefused() {
    Boundary.refusedOn(Boundary.of("size 3 2;" + FORTY), d -> d.put(1, 1));
  }

  // ---- promise 7 ----

  @Sentence("A DOT is taken (those behind it are one less each): DOTS that are left")
  static void promise07TakeTheFirst() {
    SettledDots dots = Boundary.of("dot 1 2;dot 3 4;dot 5 6;");
    due(dots.take(0), 2);
    Boundary.lies(dots, 0, 3, 4, 1);
    Boundary.lies(dots, 1, 5, 6, 1);
    due(dots.dot(2, 0), NONE);
  }

  @Sentence("A DOT is taken (those behind it are one less each): DOTS that are left")
  static void promise07TakeTheLast() {
    SettledDots dots = Boundary.of("dot 1 2;dot 3 4;dot 5 6;");
    due(dots.take(2), 2);
    Boundary.lies(dots, 0, 1, 2, 1);
    Boundary.lies(dots, 1, 3, 4, 1);
  }

  @Sentence("A DOT is taken (those behind it are one less each): DOTS that are left")
  static void promise07TakeTheOnlyOne() {
    SettledDots dots = Boundary.of("row 1;dot 1 2;");
    due(dots.take(0), 0);
    due(dots.cell(0, 0, 1), NONE);
    due(dots.about(4), 0);
  }

  @Sentence("A DOT is taken (those behind it are one less each): DOTS that are left")
  static void promise07TakeOneOfForty() {
    SettledDots dots = Boundary.of("dot 0 0;".repeat(39) + "dot 7 7;");
    due(dots.take(0), 39);
    Boundary.lies(dots, 38, 7, 7, 1);
    due(dots.dot(39, 0), NONE);
    due(dots.put(1, 1), 39);
  }

  @Sentence("A DOT is taken (those behind it are one less each): DOTS that are left")
  static void promise07TakeAheadOfADotBetweenCellsAndOneAtACell() {
    SettledDots dots = Boundary.of("size 4 1;row 1111;dot 0 0;dot 3 0;");
    dots.rounds(1);
    dots.put(1, 0);
    due(dots.take(0), 2);
    Boundary.lies(dots, 0, 5, 0, 2);
    Boundary.lies(dots, 1, 1, 0, 1);
  }

  @Sentence("NONE, doing nothing, if there is none such.")
  static void promise07TakeBelowNaughtIsRefused() {
    Boundary.refused(d -> d.take(-1));
    Boundary.refused(d -> d.take(LEAST));
  }

  @Sentence("NONE, doing nothing, if there is none such.")
  static void promise07TakeBehindTheLastIsRefused() {
    Boundary.refusedOn(Boundary.ladenWithSteps(), d -> d.take(2));
    Boundary.refusedOn(Boundary.ladenWithRedo(), d -> d.take(3));
    Boundary.refused(d -> d.take(MOST));
  }

  @Sentence("NONE, doing nothing, if there is none such.")
  static void promise07TakeWithoutDotsIsRefused() {
    Boundary.refusedOn(Boundary.of("size 3 2;row 1;"), d -> d.take(0));
  }

  @Sentence("NONE, doing nothing, if there is none such.")
  static void promise07TakeTheFortyFirstOfFortyIsRefused() {
    Boundary.refusedOn(Boundary.of("size 3 2;" + FORTY), d -> d.take(40));
  }

  // ---- promise 8 ----

  private static void moveRefused(int dot, int x, int y) {
    Boundary.refused(d -> d.move(dot, x, y) ? 1 : NONE);
  }

  @Sentence("A DOT lies at a CELL: true")
  static void promise08MoveToTheFirstCellAndTheLast() {
    SettledDots dots = Boundary.of("size 3 2;dot 1 1;");
    due(dots.move(0, 0, 0), true);
    Boundary.lies(dots, 0, 0, 0, 1);
    due(dots.move(0, 2, 1), true);
    Boundary.lies(dots, 0, 2, 1, 1);
  }

  @Sentence("A DOT lies at a CELL: true")
  static void promise08MoveToWhereAnotherDotLies() {
    SettledDots dots = Boundary.of("dot 1 1;dot 2 2;");
    due(dots.move(0, 2, 2), true);
    Boundary.lies(dots, 0, 2, 2, 1);
  }

  @Sentence("false, doing nothing, if one can't be, or it lies just there.")
  static void promise08MoveOfADotBelowNaughtIsRefused() {
    moveRefused(-1, 1, 1);
    moveRefused(LEAST, 1, 1);
  }

  @Sentence("false, doing nothing, if one can't be, or it lies just there.")
  static void promise08MoveOfADotBehindTheLastIsRefused() {
    Boundary.refusedOn(Boundary.ladenWithSteps(), d -> d.move(2, 1, 1) ? 1 : NONE);
    Boundary.refusedOn(Boundary.ladenWithRedo(), d -> d.move(3, 1, 1) ? 1 : NONE);
    moveRefused(MOST, 1, 1);
  }

  @Sentence("false, doing nothing, if one can't be, or it lies just there.")
  static void promise08MoveLeftOfThePictureIsRefused() {
    moveRefused(0, -1, 1);
    moveRefused(0, LEAST, 1);
  }

  @Sentence("false, doing nothing, if one can't be, or it lies just there.")
  static void promise08MoveRightOfThePictureIsRefused() {
    moveRefused(0, 3, 0);
    moveRefused(0, MOST, 0);
  }

  @Sentence("false, doing nothing, if one can't be, or it lies just there.")
  static void promise08MoveAboveThePictureIsRefused() {
    moveRefused(0, 1, -1);
    moveRefused(0, 1, LEAST);
  }

  @Sentence("false, doing nothing, if one can't be, or it lies just there.")
  static void promise08MoveBelowThePictureIsRefused() {
    moveRefused(0, 2, 2);
    moveRefused(0, 1, MOST);
  }

  @Sentence("false, doing nothing, if one can't be, or it lies just there.")
  static void promise08MoveToWhereItLiesIsRefused() {
    Boundary.refusedOn(Boundary.of("size 3 2;row 12;dot 2 1;"), d -> d.move(0, 2, 1) ? 1 : NONE);
  }

  @Sentence("false, doing nothing, if one can't be, or it lies just there.")
  static void promise08MoveFromBetweenCellsToEitherIsAMove() {
    for (int x = 0; x < 2; x++) {
      SettledDots dots = Boundary.of("size 2 1;row 11;dot 0 0;");
      dots.rounds(1);
      Boundary.lies(dots, 0, 1, 0, 2);
      // To 1, 0 only D is another one.
      due(dots.move(0, x, 0), true);
      Boundary.lies(dots, 0, x, 0, 1);
    }
  }

  @Sentence("false, doing nothing, if one can't be, or it lies just there.")
  static void promise08MoveBehindARoundToTheCellWhereItCameToLieIsRefused() {
    SettledDots dots = Boundary.of("size 3 1;row 101;dot 0 0;");
    dots.rounds(1);
    Boundary.lies(dots, 0, 1, 0, 1);
    Boundary.refusedOn(dots, d -> d.move(0, 1, 0) ? 1 : NONE);
  }

  // ---- promise 9 ----

  /** The seed behind which 21468 is drawn: 12345 is that behind 0. */
  private static final int SEED_OF_21468 = 12345;

  private static void drawnAt(String text, int x, int y) {
    SettledDots dots = Boundary.of(text);
    int ahead = dots.about(2);
    dots.seed(SEED_OF_21468);
    due(dots.draw(1), ahead + 1);
    Boundary.lies(dots, ahead, x, y, 1);
  }

  @Sentence("n (1 .. 40) DOTS more, one by one")
  static void promise09DrawOneIsTheLeast() {
    SettledDots dots = Boundary.of("size 2 1;row 01;");
    due(dots.draw(1), 1);
    Boundary.lies(dots, 0, 1, 0, 1);
  }

  @Sentence("n (1 .. 40) DOTS more, one by one")
  static void promise09DrawFortyIsTheMost() {
    SettledDots dots = Boundary.of("row 11111111;".repeat(5));
    due(dots.draw(40), 40);
    // Each of the forty grey cells has just one.
    for (int i = 0; i < 40; i++) {
      due(dots.cell(i % 8, i / 8, 3), 1);
    }
  }

  @Sentence("NONE, doing nothing (no DRAW, too), if n can't be")
  static void promise09DrawNaughtIsRefused() {
    Boundary.refused(d -> d.draw(0));
  }

  @Sentence("NONE, doing nothing (no DRAW, too), if n can't be")
  static void promise09DrawBelowNaughtIsRefused() {
    Boundary.refused(d -> d.draw(-1));
    Boundary.refused(d -> d.draw(LEAST));
  }

  @Sentence("NONE, doing nothing (no DRAW, too), if n can't be")
  static void promise09DrawFortyOneIsRefused() {
    SettledDots dots = Boundary.of("row 11111111;".repeat(6));
    Boundary.refusedOn(dots, d -> d.draw(41));
    Boundary.refusedOn(dots, d -> d.draw(MOST));
  }

  @Sentence("there would be more than 40")
  static void promise09DrawUpToFortyDots() {
    SettledDots dots = Boundary.of("row 11111111;" + "dot 0 1;".repeat(38));
    due(dots.draw(2), 40);
  }

  @Sentence("there would be more than 40")
  static void promise09DrawBeyondFortyDotsIsRefused() {
    SettledDots dots = Boundary.of("row 11111111;" + "dot 0 1;".repeat(38));
    Boundary.refusedOn(dots, d -> d.draw(3));
    Boundary.refusedOn(Boundary.of("row 1;" + "dot 0 1;".repeat(40)), d -> d.draw(1));
  }

  @Sentence("or there are not so many such CELLS with a WEIGHT.")
  static void promise09DrawAsManyAsThereAreGreyCells() {
    SettledDots dots = Boundary.of("size 4 1;row 1020;");
    due(dots.draw(2), 2);
    due(dots.cell(0, 0, 3), 1);
    due(dots.cell(2, 0, 3), 1);
  }

  @Sentence("or there are not so many such CELLS with a WEIGHT.")
  static void promise09DrawMoreThanThereAreGreyCellsIsRefused() {
    SettledDots dots = Boundary.of("size 4 1;row 9080;");
    dots.seed(5);
    Boundary.refusedOn(dots, d -> d.draw(3));
  }

  @Sentence("or there are not so many such CELLS with a WEIGHT.")
  static void promise09DrawWithoutWeightsIsRefused() {
    Boundary.refusedOn(Boundary.of("size 3 2;"), d -> d.draw(1));
  }

  @Sentence("or there are not so many such CELLS with a WEIGHT.")
  static void promise09DrawWhereDotsLieAtAllGreyCellsIsRefused() {
    Boundary.refusedOn(Boundary.of("size 3 2;row 101;dot 0 0;dot 2 0;"), d -> d.draw(1));
  }

  @Sentence("CELLS at which no DOT lies just there")
  static void promise09DotBetweenCellsLiesAtNoneOfThem() {
    SettledDots dots = Boundary.of("size 2 1;row 11;dot 0 0;");
    dots.rounds(1);
    due(dots.draw(2), 3);
  }

  @Sentence("CELLS at which no DOT lies just there")
  static void promise09CellOfADotThatWasTakenCanBeDrawnAgain() {
    SettledDots dots = Boundary.of("size 1 1;row 1;");
    due(dots.draw(1), 1);
    due(dots.draw(1), NONE);
    due(dots.take(0), 0);
    due(dots.draw(1), 1);
  }

  @Sentence("CELLS at which no DOT lies just there")
  static void promise09CellOfADotIsLeftOutOfTheWeights() {
    // Without cell 0 there are 12, by which 21468 leaves 0: the first of the others.
    drawnAt("size 3 1;row 139;dot 0 0;", 1, 0);
  }

  @Sentence("CELLS at which no DOT lies just there")
  static void promise09CellThatWasDrawnIsLeftOutOfTheNextDraw() {
    // 0 is drawn of 7 at cell 0, then 21468 of 6, which leaves 0: cell 1.
    SettledDots dots = Boundary.of("size 3 1;row 133;");
    due(dots.draw(2), 2);
    Boundary.lies(dots, 0, 0, 0, 1);
    Boundary.lies(dots, 1, 1, 0, 1);
  }

  @Sentence("the first by which WEIGHTS up to it, its own too, are above that")
  static void promise09DrawOfNaughtIsTheFirstGreyCell() {
    // 21468 leaves 0 by 12.
    drawnAt("size 4 1;row 0039;", 2, 0);
  }

  @Sentence("the first by which WEIGHTS up to it, its own too, are above that")
  static void promise09DrawJustBelowTheWeightsIsThatCell() {
    // 21468 leaves 8 by 10.
    drawnAt("size 2 1;row 91;", 0, 0);
  }

  @Sentence("the first by which WEIGHTS up to it, its own too, are above that")
  static void promise09DrawLikeTheWeightsIsTheNextGreyCell() {
    drawnAt("size 3 1;row 802;", 2, 0);
  }

  @Sentence("the first by which WEIGHTS up to it, its own too, are above that")
  static void promise09DrawOfTheGreatestRestIsTheLastGreyCell() {
    // 21468 leaves 6 by 7.
    drawnAt("size 2 2;row 33;row 10;", 0, 1);
  }

  @Sentence("of these, by NUMBER, the first by which WEIGHTS up to it, its own too, are above that")
  static void promise09DrawInOneColumn() {
    drawnAt("size 1 4;row 0;row 0;row 3;row 9;", 0, 2);
    drawnAt("size 1 4;row 0;row 8;row 0;row 2;", 0, 3);
  }

  @Sentence("of these, by NUMBER, the first by which WEIGHTS up to it, its own too, are above that")
  static void promise09DrawOfTheLastOfFourHundredCells() {
    drawnAt("size 20 20;" + "row 0;".repeat(19) + "row " + "0".repeat(19) + "1;", 19, 19);
  }

  @Sentence("floor(seed / 65536), the rest by m.")
  static void promise09DrawOfOneIsNaught() {
    drawnAt("size 3 1;row 001;", 2, 0);
  }

  @Sentence("the seed (0 at first) becomes seed * 1103515245 + 12345, the rest by 2147483648")
  static void promise09SeedBehindNaughtIs12345() {
    SettledDots dots = Boundary.of("row 1;");
    due(dots.draw(1), 1);
    due(dots.about(6), 12345);
  }

  @Sentence("the seed (0 at first) becomes seed * 1103515245 + 12345, the rest by 2147483648")
  static void promise09GreatestSeedWrapsAround() {
    SettledDots dots = Boundary.of("size 2 1;row 82;");
    dots.seed(MOST);
    // -1 * 1103515245 + 12345 + 2147483648; by 65536 that is 15929, which leaves 9 by 10.
    due(dots.draw(1), 1);
    due(dots.about(6), 1043980748);
    Boundary.lies(dots, 0, 1, 0, 1);
  }

  @Sentence("the seed (0 at first) becomes seed * 1103515245 + 12345, the rest by 2147483648")
  static void promise09EachDotIsADrawOfItsOwn() {
    SettledDots dots = Boundary.of("size 4 1;row 1111;");
    due(dots.draw(2), 2);
    // 12345 * 1103515245 + 12345 leaves 1406932606 by 2147483648.
    due(dots.about(6), 1406932606);
  }

  @Sentence("How many DOTS there are; NONE, doing nothing (no DRAW, too)")
  static void promise09DrawnDotsComeBehindTheOthers() {
    SettledDots dots = Boundary.of("size 3 1;row 001;dot 0 0;dot 1 0;");
    due(dots.draw(1), 3);
    Boundary.lies(dots, 0, 0, 0, 1);
    Boundary.lies(dots, 2, 2, 0, 1);
  }

  // ---- promise 10 ----

  @Sentence("The seed (0 .. 2,147,483,647): what it was")
  static void promise10SeedNaughtIsTheLeast() {
    SettledDots dots = new SettledDots();
    dots.seed(9);
    due(dots.seed(0), 9);
    due(dots.about(6), 0);
  }

  @Sentence("The seed (0 .. 2,147,483,647): what it was")
  static void promise10SeedOf2147483647IsTheMost() {
    SettledDots dots = new SettledDots();
    due(dots.seed(MOST), 0);
    due(dots.about(6), MOST);
    due(dots.seed(1), MOST);
  }

  @Sentence("The seed (0 .. 2,147,483,647): what it was")
  static void promise10SeedThatItIsIsAnsweredToo() {
    SettledDots dots = new SettledDots();
    dots.seed(9);
    due(dots.seed(9), 9);
  }

  @Sentence("NONE, doing nothing, for another number.")
  static void promise10SeedBelowNaughtIsRefused() {
    Boundary.refused(d -> d.seed(-1));
    Boundary.refused(d -> d.seed(LEAST));
  }

  @Sentence("ACTS: a DOT put, taken, moved, DOTS drawn, a CELL painted, ADAPTED, turned, ROUNDS.")
  static void promise10SeedIsNoAct() {
    SettledDots dots = Boundary.ladenWithRedo();
    due(dots.seed(5), 78);
    due(dots.about(7), 1);
    due(dots.about(8), 1);
    dots = Boundary.ladenWithSteps();
    due(dots.seed(5), 77);
    due(dots.steps(NONE, 0), 1);
  }

  // ---- promise 11 ----

  @Sentence("A CELL has another WEIGHT (0 .. 9): what it was")
  static void promise11PaintTheFirstCellAndTheLast() {
    SettledDots dots = Boundary.of("size 3 2;row 123;row 456;");
    due(dots.paint(0, 0, 7), 1);
    due(dots.paint(2, 1, 8), 6);
    Boundary.weights(dots, "723", "458");
  }

  @Sentence("A CELL has another WEIGHT (0 .. 9): what it was")
  static void promise11PaintNaughtIsTheLeast() {
    SettledDots dots = Boundary.of("size 2 1;row 12;");
    due(dots.paint(1, 0, 0), 2);
    Boundary.weights(dots, "10");
  }

  @Sentence("A CELL has another WEIGHT (0 .. 9): what it was")
  static void promise11PaintNineIsTheMost() {
    SettledDots dots = Boundary.of("size 2 1;row 10;");
    due(dots.paint(1, 0, 9), 0);
    Boundary.weights(dots, "19");
  }

  @Sentence("NONE, doing nothing, if one can't be, or it is that.")
  static void promise11PaintBelowNaughtIsRefused() {
    Boundary.refused(d -> d.paint(1, 1, -1));
    Boundary.refused(d -> d.paint(1, 1, LEAST));
  }

  @Sentence("NONE, doing nothing, if one can't be, or it is that.")
  static void promise11PaintTenIsRefused() {
    Boundary.refused(d -> d.paint(1, 1, 10));
    Boundary.refused(d -> d.paint(1, 1, MOST));
  }

  @Sentence("NONE, doing nothing, if one can't be, or it is that.")
  static void promise11PaintTheWeightThatItIsIsRefused() {
    Boundary.refused(d -> d.paint(2, 1, 6));
    Boundary.refusedOn(Boundary.of("size 3 2;"), d -> d.paint(2, 1, 0));
  }

  @Sentence("NONE, doing nothing, if one can't be, or it is that.")
  static void promise11PaintOutsideThePictureIsRefused() {
    Boundary.refused(d -> d.paint(-1, 1, 9));
    Boundary.refused(d -> d.paint(3, 0, 9));
    Boundary.refused(d -> d.paint(0, -1, 9));
    Boundary.refused(d -> d.paint(2, 2, 9));
    Boundary.refused(d -> d.paint(LEAST, 0, 9));
    Boundary.refused(d -> d.paint(0, MOST, 9));
  }
}
