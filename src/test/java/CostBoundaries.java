/** Boundary cases of promises 26, 27 and 36 to 38: dots by shade; what a dot elsewhere, less, more costs. */
final class CostBoundaries {
  private static final int NONE = Boundary.NONE;
  private static final int LEAST = Boundary.LEAST;
  private static final int MOST = Boundary.MOST;
  private static final String NINES = "size20 20;" + ("row" + "9".repeat(20) + ";").repeat(20);

  private CostBoundaries() {
  }

  private static void due(long got, long want) {
    Boundary.due(got, want);
  }

  /** What is due to shades 1, 2 .. */
  private static void shares(SettledDots dots, int... shares) {
    for (int s = 1; s <= 9; s++) {
      due(dots.due(s), s <= shares.length ? shares[s - 1] : 0);
    }
  }

  // ---- promise 26 ----

  @Sentence("How many of all DOTS are due to a shade s (1 .. 9)")
  static void promise26ShadeOneIsTheLeast() {
    due(Boundary.of("row 1;dot 0 0;").due(1), 1);
  }

  @Sentence("How many of all DOTS are due to a shade s (1 .. 9)")
  static void promise26ShadeNineIsTheMost() {
    due(Boundary.of("row 9;dot 0 0;").due(9), 1);
    due(Boundary.of(NINES + "dot0 0;".repeat(40)).due(9), 40);
  }

  @Sentence("0 without WEIGHTS; NONE for another s.")
  static void promise26OtherShadesAreNone() {
    SettledDots dots = Boundary.of("row 1234;dot 0 0;");
    Boundary.none(dots.due(0), dots.due(10), dots.due(-1), dots.due(LEAST), dots.due(MOST));
  }

  @Sentence("0 without WEIGHTS; NONE for another s.")
  static void promise26WithoutWeightsNothingIsDue() {
    SettledDots dots = Boundary.of("dot 0 0;dot 1 1;");
    shares(dots);
    Boundary.none(dots.due(0), dots.due(10));
  }

  @Sentence("DOTS * WEIGHTS of CELLS with s together / all WEIGHTS, cut")
  static void promise26WithoutDotsNothingIsDue() {
    shares(Boundary.of("row 1234;"));
  }

  @Sentence("DOTS * WEIGHTS of CELLS with s together / all WEIGHTS, cut")
  static void promise26WhereNothingIsCutNothingIsLeft() {
    shares(Boundary.of("size 2 1;row 13;" + "dot 0 0;".repeat(4)), 1, 0, 3);
  }

  @Sentence("what is left goes, one each, to those of which most was cut")
  static void promise26WhatIsLeftGoesToThoseOfWhichMostWasCut() {
    // 3, 6, 9 and 12 tenths: one is whole, two are left for 9 and 6.
    shares(Boundary.of("size 4 1;row 1234;dot 0 0;dot 0 0;dot 0 0;"), 0, 1, 1, 1);
  }

  @Sentence("of like ones to the greater shade first.")
  static void promise26OfTwoLikeShadesTheGreaterComesFirst() {
    shares(Boundary.of("size 4 1;row 1113;dot 0 0;"), 0, 0, 1);
  }

  @Sentence("of like ones to the greater shade first.")
  static void promise26OfThreeLikeShadesTheGreaterTwoComeFirst() {
    String text = "size 11 1;row 11111122233;dot 0 0;";
    shares(Boundary.of(text), 0, 0, 1);
    shares(Boundary.of(text + "dot 0 0;"), 0, 1, 1);
    shares(Boundary.of(text + "dot 0 0;dot 0 0;"), 1, 1, 1);
    shares(Boundary.of(text + "dot 0 0;dot 0 0;dot 0 0;"), 1, 1, 2);
  }

  // ---- promise 27 ----

  private static final String BEST = "The CELL at which a DOT would have to lie so that COST of the "
      + "PICTURE is least (all others as they are), of like ones the least NUMBER";

  private static void best(SettledDots dots, int dot, int number, int cost) {
    due(dots.best(dot, 0), number);
    due(dots.best(dot, 1), cost);
  }

  @Sentence(BEST)
  static void promise27OfLikeCellsTheLeastNumber() {
    // At 1 or at 2: 1 + 4 thousands.
    best(Boundary.of("size 4 1;row 1001;dot 3 0;"), 0, 1, 5000);
  }

  @Sentence(BEST)
  static void promise27WithoutWeightsTheFirstCell() {
    best(Boundary.of("dot 3 3;dot 5 5;"), 1, 0, 0);
  }

  @Sentence(BEST)
  static void promise27WhereAnotherDotLiesMayBeBest() {
    best(Boundary.of("size 2 1;row 90;dot 0 0;dot 1 0;"), 1, 0, 0);
  }

  @Sentence(BEST)
  static void promise27TheLastCell() {
    best(Boundary.of("size 3 2;row 900;row 009;dot 0 0;dot 0 0;"), 1, 5, 0);
    best(Boundary.of("size 3 2;row 900;row 009;dot 0 0;dot 0 0;"), 0, 5, 0);
  }

  @Sentence(BEST)
  static void promise27WhereItLiesMayBeBest() {
    best(Boundary.of("size 3 1;row 909;dot 2 0;dot 0 0;"), 0, 2, 0);
  }

  @Sentence(BEST)
  static void promise27TheOnlyDotOfTheGreatestPicture() {
    // At 9, 9: 9000 * 40 * (81 + .. + 1 + 0 + 1 + .. + 100)
    best(Boundary.of(NINES + "dot0 0;"), 0, 189, 241200000);
  }

  @Sentence(BEST)
  static void promise27DotThatOwnsNoneCanBeBetterElsewhere() {
    best(Boundary.of("size 5 1;row 90009;dot 0 0;dot 0 0;"), 1, 4, 0);
  }

  @Sentence("NONE if there is none such, or for another what.")
  static void promise27NoSuchDotIsNone() {
    SettledDots dots = Boundary.of(Boundary.LADEN);
    Boundary.none(dots.best(-1, 0), dots.best(2, 0), dots.best(2, 1), dots.best(LEAST, 0),
        dots.best(MOST, 1), new SettledDots().best(0, 0));
  }

  @Sentence("NONE if there is none such, or for another what.")
  static void promise27AnotherWhatIsNone() {
    SettledDots dots = Boundary.of(Boundary.LADEN);
    Boundary.none(dots.best(0, -1), dots.best(0, 2), dots.best(0, LEAST), dots.best(0, MOST));
  }

  @Sentence(BEST)
  static void promise27BestDoesNothing() {
    Boundary.doesNothing(d -> d.best(1, 0));
    Boundary.doesNothing(d -> d.best(0, 1));
  }

  // ---- promise 36 ----

  @Sentence("How much greater COST of the PICTURE were, were a DOT taken (those left do not move)")
  static void promise36OneOfTwoAtOneCellIsNoLoss() {
    SettledDots dots = Boundary.of("row 123;dot 1 1;dot 1 1;");
    due(dots.loss(0), 0);
    due(dots.loss(1), 0);
  }

  @Sentence("How much greater COST of the PICTURE were, were a DOT taken (those left do not move)")
  static void promise36DotThatOwnsNoGreyIsNoLoss() {
    due(Boundary.of("size 3 1;row 900;dot 0 0;dot 2 0;").loss(1), 0);
  }

  @Sentence("How much greater COST of the PICTURE were, were a DOT taken (those left do not move)")
  static void promise36OneOfTwo() {
    SettledDots dots = Boundary.of("size 3 1;row 102;dot 0 0;dot 2 0;");
    due(dots.loss(0), 4000);
    due(dots.loss(1), 8000);
    due(dots.about(2), 2);
  }

  @Sentence("How much greater COST of the PICTURE were, were a DOT taken (those left do not move)")
  static void promise36GreatestLoss() {
    // Only one cell is grey: nearest is dot 1 there, then dot 0 in the other corner.
    String corner = "size 20 20;" + "row 0;".repeat(19) + "row " + "0".repeat(19) + "9;";
    due(Boundary.of(corner + "dot 0 0;dot 19 19;").loss(1), 6498000);
  }

  @Sentence("How much greater COST of the PICTURE were, were a DOT taken (those left do not move)")
  static void promise36LossIsOfCostsThatAreCut() {
    // Dot 0 at 4 / 3: 1777 and 888; the dot at 2 makes 0 of 888.
    SettledDots dots = Boundary.of("size 3 1;row 102;dot 0 0;");
    dots.rounds(1);
    dots.put(2, 0);
    due(dots.loss(1), 888);
    due(dots.loss(0), 2223);
  }

  @Sentence("How much greater COST of the PICTURE were, were a DOT taken (those left do not move)")
  static void promise36LossDoesNothing() {
    Boundary.doesNothing(d -> d.loss(0));
  }

  @Sentence("NONE if there is none such, or it is the only one.")
  static void promise36TheOnlyDotIsNone() {
    due(Boundary.of("row 123;dot 1 1;").loss(0), NONE);
  }

  @Sentence("NONE if there is none such, or it is the only one.")
  static void promise36NoSuchDotIsNone() {
    SettledDots dots = Boundary.of(Boundary.LADEN);
    Boundary.none(dots.loss(-1), dots.loss(2), dots.loss(LEAST), dots.loss(MOST),
        new SettledDots().loss(0));
  }

  // ---- promise 37 ----

  @Sentence("The DOT with the least loss(), of like ones the first")
  static void promise37OfLikeDotsTheFirst() {
    due(Boundary.of("row 123;dot 1 1;dot 1 1;").idle(), 0);
    due(Boundary.of("dot 1 1;dot 3 3;dot 2 2;").idle(), 0);
    due(Boundary.of("size 5 1;row 90109;dot 2 0;dot 0 0;dot 4 0;").idle(), 0);
    due(Boundary.of("size 5 1;row 10901;dot 2 0;dot 0 0;dot 4 0;").idle(), 1);
  }

  @Sentence("The DOT with the least loss(), of like ones the first")
  static void promise37TheLastOfFortyMayBeIt() {
    // Two at each of 19 cells would be no loss: here each of 40 cells has one, the last is lightest.
    StringBuilder text = new StringBuilder("size20 2;row" + "2".repeat(20) + ";row"
        + "2".repeat(19) + "1;");
    for (int i = 0; i < 40; i++) {
      text.append("dot").append(i % 20).append(' ').append(i / 20).append(';');
    }
    due(Boundary.of(text.toString()).idle(), 39);
  }

  @Sentence("The DOT with the least loss(), of like ones the first")
  static void promise37IdleDoesNothing() {
    Boundary.doesNothing(d -> d.idle());
  }

  @Sentence("NONE if there are not two.")
  static void promise37WithOneDotOrNoneIsNone() {
    due(Boundary.of("row 123;dot 1 1;").idle(), NONE);
    due(Boundary.of("row 123;").idle(), NONE);
    due(Boundary.of("row 123;dot 1 1;dot 2 0;").idle(), 0);
  }

  // ---- promise 38 ----

  private static final String MORE =
      "The CELL at which one DOT more would make COST of the PICTURE least (none moves), of like ones "
      + "the least NUMBER";

  private static void more(SettledDots dots, int number, int cost) {
    due(dots.more(0), number);
    due(dots.more(1), cost);
  }

  @Sentence(MORE)
  static void promise38OfLikeCellsTheLeastNumber() {
    more(Boundary.of("size 3 1;row 101;dot 1 0;"), 0, 1000);
  }

  @Sentence(MORE)
  static void promise38WhereNothingCostsTheFirstCell() {
    more(Boundary.of("dot 3 3;"), 0, 0);
    more(Boundary.of("size 3 1;row 009;dot 2 0;"), 0, 0);
  }

  @Sentence(MORE)
  static void promise38WhereADotLiesMayBeTheCell() {
    more(Boundary.of("size 2 1;row 90;dot 0 0;"), 0, 0);
  }

  @Sentence(MORE)
  static void promise38TheLastCell() {
    more(Boundary.of("size 3 2;row 000;row 009;dot 0 0;"), 5, 0);
  }

  @Sentence(MORE)
  static void promise38WithFortyDotsOneMoreCanStillBeAskedFor() {
    more(Boundary.of("size 2 1;row 11;" + "dot 0 0;".repeat(40)), 1, 0);
  }

  @Sentence(MORE)
  static void promise38NoneMovesAndNoneIsPut() {
    SettledDots dots = Boundary.of("size 5 1;row 12345;dot 0 0;");
    // At 3: 2 + 3 + 0 + 5 thousands.
    more(dots, 3, 10000);
    due(dots.about(2), 1);
    Boundary.lies(dots, 0, 0, 0, 1);
  }

  @Sentence(MORE)
  static void promise38CostsOfOneCountToo() {
    // The dot at 53 / 26: 37397, 3235, 1, 3698, 34628; with one at 0: 0, 3000, 1, 3698, 34628.
    SettledDots dots = Boundary.of("size 5 1;row 93149;dot 2 0;");
    dots.rounds(1);
    Boundary.lies(dots, 0, 53, 0, 26);
    due(dots.cell(2, 0, 2), 1);
    due(dots.about(4), 78959);
    more(dots, 0, 41327);
  }

  @Sentence(MORE)
  static void promise38MoreDoesNothing() {
    Boundary.doesNothing(d -> d.more(0));
    Boundary.doesNothing(d -> d.more(1));
  }

  @Sentence("NONE without DOTS, or for another what.")
  static void promise38WithoutDotsIsNone() {
    SettledDots dots = Boundary.of("row 123;");
    Boundary.none(dots.more(0), dots.more(1));
  }

  @Sentence("NONE without DOTS, or for another what.")
  static void promise38AnotherWhatIsNone() {
    SettledDots dots = Boundary.of(Boundary.LADEN);
    Boundary.none(dots.more(-1), dots.more(2), dots.more(LEAST), dots.more(MOST));
  }
}
