/** Boundary cases of promises 28 to 31: edges, who lies beside whom, ways, shades. */
final class LinkBoundaries {
  private static final int NONE = Boundary.NONE;
  private static final int LEAST = Boundary.LEAST;
  private static final int MOST = Boundary.MOST;
  /** A dot at each of six cells. */
  private static final String SIX = "size 3 2;dot 0 0;dot 1 0;dot 2 0;dot 0 1;dot 1 1;dot 2 1;";

  private LinkBoundaries() {
  }

  private static void due(long got, long want) {
    Boundary.due(got, want);
  }

  /** A dot at each of forty cells. */
  private static SettledDots forty() {
    StringBuilder text = new StringBuilder("size20 2;");
    for (int i = 0; i < 40; i++) {
      text.append("dot").append(i % 20).append(' ').append(i / 20).append(';');
    }
    return Boundary.of(text.toString());
  }

  // ---- promise 28 ----

  private static final String FARTHEST =
      "the NUMBER of its CELL with the greatest DISTANCE, of like ones the least (NONE if it owns none)";

  @Sentence(FARTHEST)
  static void promise28OfLikeCellsTheLeastNumber() {
    due(Boundary.of("size 3 3;dot 1 1;").edge(0, 0), 0);
    due(Boundary.of("size 3 1;dot 1 0;").edge(0, 0), 0);
    due(Boundary.of("size 3 1;dot 0 0;").edge(0, 0), 2);
  }

  @Sentence(FARTHEST)
  static void promise28DotWithOnlyItsOwnCell() {
    due(Boundary.of(SIX).edge(5, 0), 5);
    due(Boundary.of("size 1 1;dot 0 0;").edge(0, 0), 0);
  }

  @Sentence(FARTHEST)
  static void promise28DotThatOwnsNoneHasNoFarthestCell() {
    due(Boundary.of("size 3 1;dot 1 0;dot 1 0;").edge(1, 0), NONE);
  }

  @Sentence(FARTHEST)
  static void promise28OnlyItsOwnCellsCount() {
    due(Boundary.of("size 8 1;dot 0 0;dot 4 0;").edge(0, 0), 2);
    due(Boundary.of("size 8 1;dot 0 0;dot 4 0;").edge(1, 0), 7);
  }

  @Sentence(FARTHEST)
  static void promise28LastCellOfTheGreatestPicture() {
    due(Boundary.of("size 20 20;dot 0 0;").edge(0, 0), 399);
    due(Boundary.of("size 20 20;dot 19 19;").edge(0, 0), 0);
  }

  @Sentence("1: how many couples of its CELLS and others' are side by side")
  static void promise28TheOnlyDotHasNoCouples() {
    due(Boundary.of("size 3 3;dot 1 1;").edge(0, 1), 0);
    due(Boundary.of("size 3 1;dot 1 0;dot 1 0;").edge(1, 1), 0);
  }

  @Sentence("1: how many couples of its CELLS and others' are side by side")
  static void promise28CouplesWithAllOthersTogether() {
    SettledDots dots = Boundary.of(SIX);
    due(dots.edge(0, 1), 2);
    due(dots.edge(1, 1), 3);
    due(dots.edge(4, 1), 3);
    // A cell with two of another one's cells beside it is in two couples.
    due(Boundary.of("size 2 2;dot 1 1;dot 0 0;").edge(1, 1), 2);
  }

  @Sentence("1: how many couples of its CELLS and others' are side by side")
  static void promise28CouplesOfTheFirstOfFortyAndTheLast() {
    SettledDots dots = forty();
    due(dots.edge(0, 1), 2);
    due(dots.edge(1, 1), 3);
    due(dots.edge(38, 1), 3);
    due(dots.edge(39, 1), 2);
  }

  @Sentence("2: how many of its CELLS lie at an edge of the PICTURE")
  static void promise28CellAtTwoEdgesCountsOnce() {
    due(Boundary.of("size 1 1;dot 0 0;").edge(0, 2), 1);
    due(Boundary.of("size 3 3;dot 1 1;").edge(0, 2), 8);
    due(Boundary.of("size 2 2;dot 1 1;").edge(0, 2), 4);
  }

  @Sentence("2: how many of its CELLS lie at an edge of the PICTURE")
  static void promise28EachOfTheFourEdges() {
    SettledDots dots = Boundary.of("size 4 3;dot 1 0;dot 0 1;dot 3 1;dot 2 2;dot 1 1;");
    Boundary.owners(dots, "0002", "1422", "1332");
    due(dots.edge(0, 2), 3);
    due(dots.edge(1, 2), 2);
    due(dots.edge(2, 2), 3);
    due(dots.edge(3, 2), 2);
    due(dots.edge(4, 2), 0);
  }

  @Sentence("2: how many of its CELLS lie at an edge of the PICTURE")
  static void promise28AllOfOneRowOrTwoLieAtAnEdge() {
    due(Boundary.of("size 20 1;dot 0 0;").edge(0, 2), 20);
    due(Boundary.of("size 2 20;dot 0 0;").edge(0, 2), 40);
    due(Boundary.of("size 20 20;dot 0 0;").edge(0, 2), 76);
  }

  @Sentence("2: how many of its CELLS lie at an edge of the PICTURE")
  static void promise28DotThatOwnsNoneHasNoneAtAnEdge() {
    due(Boundary.of("size 3 1;dot 1 0;dot 1 0;").edge(1, 2), 0);
  }

  @Sentence("NONE if there is none such, or for another what.")
  static void promise28NoSuchDotIsNone() {
    SettledDots dots = Boundary.of(Boundary.LADEN);
    for (int what = 0; what < 3; what++) {
      Boundary.none(dots.edge(-1, what), dots.edge(2, what), dots.edge(LEAST, what),
          dots.edge(MOST, what), new SettledDots().edge(0, what));
    }
  }

  @Sentence("NONE if there is none such, or for another what.")
  static void promise28AnotherWhatIsNone() {
    SettledDots dots = Boundary.of(Boundary.LADEN);
    Boundary.none(dots.edge(0, -1), dots.edge(0, 3), dots.edge(0, LEAST), dots.edge(0, MOST));
  }

  // ---- promise 29 ----

  @Sentence("Two CELLS are side by side, if they differ by 1 in x or in y alone.")
  static void promise29CellsThatMeetByACornerAreNotSideBySide() {
    SettledDots dots = Boundary.of(SIX);
    due(dots.touch(0, 4), 0);
    due(dots.touch(1, 3), 0);
    due(dots.touch(0, 1), 1);
    due(dots.touch(0, 3), 1);
  }

  @Sentence("Two CELLS are side by side, if they differ by 1 in x or in y alone.")
  static void promise29LastCellOfARowAndFirstOfTheNextAreNotSideBySide() {
    due(Boundary.of(SIX).touch(2, 3), 0);
  }

  @Sentence("Two CELLS are side by side, if they differ by 1 in x or in y alone.")
  static void promise29CellsTwoApartAreNotSideBySide() {
    due(Boundary.of(SIX).touch(0, 2), 0);
    due(Boundary.of("size 1 3;dot 0 0;dot 0 1;dot 0 2;").touch(0, 2), 0);
  }

  @Sentence("How many couples of CELLS of two DOTS are side by side (0: they do not TOUCH)")
  static void promise29TwentyCouplesAlongTheWholePicture() {
    due(Boundary.of("size 20 20;dot 9 0;dot 9 19;").touch(0, 1), 20);
    due(Boundary.of("size 20 20;dot 9 0;dot 9 19;").touch(1, 0), 20);
  }

  @Sentence("How many couples of CELLS of two DOTS are side by side (0: they do not TOUCH)")
  static void promise29DotThatOwnsNoneTouchesNone() {
    SettledDots dots = Boundary.of("size 3 1;dot 1 0;dot 1 0;");
    due(dots.touch(0, 1), 0);
    due(dots.touch(1, 0), 0);
  }

  @Sentence("NONE if they are one, or one can't be.")
  static void promise29DotWithItselfIsNone() {
    SettledDots dots = Boundary.of(Boundary.LADEN);
    Boundary.none(dots.touch(0, 0), dots.touch(1, 1));
  }

  @Sentence("NONE if they are one, or one can't be.")
  static void promise29NoSuchDotIsNone() {
    SettledDots dots = Boundary.of(Boundary.LADEN);
    for (int bad : new int[] {-1, 2, 40, LEAST, MOST}) {
      Boundary.none(dots.touch(0, bad), dots.touch(bad, 0), dots.touch(bad, bad));
    }
  }

  // ---- promise 30 ----

  private static final String WAY =
      "The fewest steps from DOT to DOT, each to one that it TOUCHES, from one to another one (0: itself)";

  @Sentence(WAY)
  static void promise30WayToItselfIsNaught() {
    due(Boundary.of(Boundary.LADEN).way(1, 1), 0);
    due(Boundary.of("dot 1 1;").way(0, 0), 0);
    due(Boundary.of("size 3 1;dot 1 0;dot 1 0;").way(1, 1), 0);
  }

  @Sentence(WAY)
  static void promise30WayToOneThatItTouchesIsOne() {
    due(Boundary.of(Boundary.LADEN).way(0, 1), 1);
    due(Boundary.of(SIX).way(0, 3), 1);
  }

  @Sentence(WAY)
  static void promise30WayRoundACornerIsTwo() {
    due(Boundary.of(SIX).way(0, 4), 2);
    due(Boundary.of(SIX).way(2, 3), 3);
  }

  @Sentence(WAY)
  static void promise30WayThroughFortyDots() {
    SettledDots dots = forty();
    due(dots.way(0, 39), 20);
    due(dots.way(39, 0), 20);
    due(dots.way(19, 20), 20);
    due(dots.way(0, 19), 19);
  }

  @Sentence("NONE if there is no way, or one can't be.")
  static void promise30NoWayFromOrToADotThatOwnsNone() {
    SettledDots dots = Boundary.of("size 3 1;dot 0 0;dot 2 0;dot 2 0;");
    Boundary.none(dots.way(0, 2), dots.way(2, 0), dots.way(2, 1));
    due(dots.way(0, 1), 1);
  }

  @Sentence("NONE if there is no way, or one can't be.")
  static void promise30NoSuchDotIsNone() {
    SettledDots dots = Boundary.of(Boundary.LADEN);
    for (int bad : new int[] {-1, 2, 40, LEAST, MOST}) {
      Boundary.none(dots.way(0, bad), dots.way(bad, 0), dots.way(bad, bad));
    }
    due(new SettledDots().way(0, 0), NONE);
  }

  // ---- promise 31 ----

  private static final String SHADE = "CELLS with a WEIGHT s (0 .. 9) what 0: how many, 1: how many "
      + "DOTS have such a one as SPOT, 2: how many unlike DOTS own such ones, "
      + "3: COST of these CELLS together.";

  private static void shade(SettledDots dots, int s, int cells, int spots, int owners, int cost) {
    due(dots.shade(s, 0), cells);
    due(dots.shade(s, 1), spots);
    due(dots.shade(s, 2), owners);
    due(dots.shade(s, 3), cost);
  }

  @Sentence(SHADE)
  static void promise31ShadeNaughtIsTheLeast() {
    shade(Boundary.of("size 3 1;row 090;dot 0 0;dot 2 0;"), 0, 2, 2, 2, 0);
  }

  @Sentence(SHADE)
  static void promise31ShadeNineIsTheMost() {
    shade(Boundary.of("size 3 1;row 090;dot 0 0;dot 2 0;"), 9, 1, 0, 1, 9000);
  }

  @Sentence(SHADE)
  static void promise31ShadeOfNoCell() {
    shade(Boundary.of("size 3 1;row 090;dot 0 0;dot 2 0;"), 5, 0, 0, 0, 0);
  }

  @Sentence(SHADE)
  static void promise31WithoutDots() {
    shade(Boundary.of("size 3 1;row 990;"), 9, 2, 0, 0, 0);
    shade(Boundary.of("size 3 1;row 990;"), 0, 1, 0, 0, 0);
  }

  @Sentence(SHADE)
  static void promise31DotThatOwnsSeveralCountsOnce() {
    shade(Boundary.of("size 4 1;row 7777;dot 0 0;dot 0 0;"), 7, 4, 2, 1, 98000);
  }

  @Sentence(SHADE)
  static void promise31FirstCellCountsToo() {
    shade(Boundary.of("size 3 1;row 909;dot 2 0;"), 9, 2, 1, 1, 36000);
  }

  @Sentence(SHADE)
  static void promise31OnlyDotsThatOwnSuchOnesCount() {
    shade(Boundary.of("size 6 1;row 909000;dot 0 0;dot 2 0;dot 5 0;"), 9, 2, 2, 2, 0);
    shade(Boundary.of("size 6 1;row 909000;dot 0 0;dot 2 0;dot 5 0;"), 0, 4, 1, 3, 0);
  }

  @Sentence(SHADE)
  static void promise31ShadeOfAllOfTheGreatestPicture() {
    String nines = "size20 20;" + ("row" + "9".repeat(20) + ";").repeat(20) + "dot0 0;".repeat(40);
    shade(Boundary.of(nines), 9, 400, 40, 1, 889200000);
    shade(Boundary.of(nines), 0, 0, 0, 0, 0);
    shade(Boundary.of("size 20 20;" + "dot 19 19;".repeat(40)), 0, 400, 40, 1, 0);
  }

  @Sentence("NONE if one can't be.")
  static void promise31OtherShadesAreNone() {
    SettledDots dots = Boundary.of(Boundary.LADEN);
    for (int what = 0; what < 4; what++) {
      Boundary.none(dots.shade(-1, what), dots.shade(10, what), dots.shade(LEAST, what),
          dots.shade(MOST, what));
    }
  }

  @Sentence("NONE if one can't be.")
  static void promise31AnotherWhatIsNone() {
    SettledDots dots = Boundary.of(Boundary.LADEN);
    Boundary.none(dots.shade(1, -1), dots.shade(1, 4), dots.shade(1, LEAST), dots.shade(1, MOST));
  }
}
