/** Boundary cases of promises 17 to 25: who owns what; what is nearest, second, farther. */
final class OwnerBoundaries {
  private static final int NONE = Boundary.NONE;
  private static final int LEAST = Boundary.LEAST;
  private static final int MOST = Boundary.MOST;
  private static final String FORTY = "dot 0 0;".repeat(40);
  private static final String NINES = "size20 20;" + ("row" + "9".repeat(20) + ";").repeat(20);

  private OwnerBoundaries() {
  }

  private static void due(long got, long want) {
    Boundary.due(got, want);
  }

  private static SettledDots behindARound(String text) {
    SettledDots dots = Boundary.of(text);
    due(dots.rounds(1), 1);
    return dots;
  }

  /** The dot lies at 4 / 3, 0. */
  private static SettledDots thirds() {
    return behindARound("size 3 2;row 102;dot 0 0;");
  }

  // ---- owners ----

  private static final String OWNER =
      "A CELL's OWNER: the DOT with the least DISTANCE, of like ones the least number.";

  @Sentence(OWNER)
  static void promise18OfLikeDotsTheLeastNumberOwnsTheCell() {
    Boundary.owners(Boundary.of("size 5 1;dot 0 0;dot 4 0;"), "00011");
    Boundary.owners(Boundary.of("size 5 1;dot 4 0;dot 0 0;"), "11000");
  }

  @Sentence(OWNER)
  static void promise18OfDotsAtOneCellTheFirstOwnsAll() {
    Boundary.owners(Boundary.of("size 3 2;dot 1 1;dot 1 1;dot 1 1;"), "000", "000");
  }

  @Sentence(OWNER)
  static void promise18OfLikeFractionsTheLeastNumberOwnsTheCell() {
    // At 1 / 2 and 7 / 2: cell 2 is 9 / 4 from both.
    SettledDots dots = behindARound("size 5 1;row 11011;dot 0 0;dot 4 0;");
    Boundary.lies(dots, 0, 1, 0, 2);
    Boundary.lies(dots, 1, 7, 0, 2);
    Boundary.owners(dots, "00011");
    due(dots.ties(2, 0), 2);
  }

  @Sentence(OWNER)
  static void promise18FractionThatIsNearerByVeryLittleOwnsTheCell() {
    // Dot 1 at 32 / 33, 8 / 33 is 1088 / 1089 from 0, 0; dot 0 is 1 from it.
    SettledDots dots = behindARound("size 9 3;row 998;row 06;row 01;dot 8 2;dot 0 0;");
    Boundary.lies(dots, 1, 32, 8, 33);
    Boundary.due(dots.move(0, 1, 0), true);
    due(dots.cell(0, 0, 1), 1);
    due(dots.ties(0, 0), 1);
    due(dots.near(0, 0, 0), 1);
    due(dots.near(0, 0, 1), 0);
  }

  @Sentence(OWNER)
  static void promise18TieBehindARoundGoesToTheLeastNumberThoughItWasEmpty() {
    // Dot 1 stays at 5, the empty dot 0 is put at 3: cell 4 is between them.
    SettledDots dots = behindARound("size 8 1;row 00020002;dot 0 0;dot 5 0;");
    Boundary.lies(dots, 0, 3, 0, 1);
    Boundary.owners(dots, "00000111");
  }

  // ---- promise 17 ----

  @Sentence("NONE if there is none such, or for another what.")
  static void promise17NoSuchDotIsNone() {
    SettledDots dots = Boundary.of("dot 1 1;dot 2 2;");
    for (int what = 0; what < 8; what++) {
      Boundary.none(dots.dot(-1, what), dots.dot(2, what), dots.dot(LEAST, what),
          dots.dot(MOST, what), dots.dot(40, what));
    }
  }

  @Sentence("NONE if there is none such, or for another what.")
  static void promise17WithoutDotsIsNone() {
    for (int what = 0; what < 8; what++) {
      due(new SettledDots().dot(0, what), NONE);
    }
  }

  @Sentence("NONE if there is none such, or for another what.")
  static void promise17DotThatWasTakenIsNone() {
    SettledDots dots = Boundary.of("dot 1 1;dot 2 2;");
    dots.take(0);
    due(dots.dot(1, 0), NONE);
  }

  @Sentence("NONE if there is none such, or for another what.")
  static void promise17AnotherWhatIsNone() {
    SettledDots dots = Boundary.of("dot 1 1;");
    Boundary.none(dots.dot(0, -1), dots.dot(0, 8), dots.dot(0, LEAST), dots.dot(0, MOST));
  }

  @Sentence("3: how many CELLS it owns, 4: LOAD, 5: COST")
  static void promise17DotThatOwnsNone() {
    SettledDots dots = Boundary.of("size 3 2;row 111;dot 2 1;dot 2 1;");
    due(dots.dot(1, 3), 0);
    due(dots.dot(1, 4), 0);
    due(dots.dot(1, 5), 0);
    due(dots.dot(1, 6), 5);
    due(dots.dot(1, 7), 0);
  }

  @Sentence("3: how many CELLS it owns, 4: LOAD, 5: COST")
  static void promise17DotThatOwnsAllOfTheGreatestPicture() {
    SettledDots dots = Boundary.of(NINES + "dot0 0;");
    due(dots.dot(0, 3), 400);
    due(dots.dot(0, 4), 3600);
    // 9000 * 40 * (0 + 1 + 4 + .. + 361)
    due(dots.dot(0, 5), 889200000);
    due(dots.dot(0, 7), 1);
  }

  @Sentence("its WEIGHT * 1000 * DISTANCE to its OWNER, cut downwards (0 without DOTS)")
  static void promise17CostsOfCellsAreCutOneByOne() {
    // 16000 / 9 and 8000 / 9
    due(thirds().cell(0, 0, 2), 1777);
    due(thirds().cell(2, 0, 2), 888);
    due(thirds().dot(0, 5), 2665);
    due(thirds().about(4), 2665);
  }

  @Sentence("SPOT of a DOT: the CELL with the least DISTANCE, of like ones the least NUMBER.")
  static void promise17SpotBetweenTwoCellsOfARowIsTheLeft() {
    due(behindARound("size 2 2;row 00;row 11;dot 0 0;").dot(0, 6), 2);
  }

  @Sentence("SPOT of a DOT: the CELL with the least DISTANCE, of like ones the least NUMBER.")
  static void promise17SpotBetweenTwoCellsOfAColumnIsTheUpper() {
    due(behindARound("size 2 2;row 01;row 01;dot 0 0;").dot(0, 6), 1);
  }

  @Sentence("SPOT of a DOT: the CELL with the least DISTANCE, of like ones the least NUMBER.")
  static void promise17SpotBetweenFourCellsIsTheFirst() {
    due(behindARound("size 2 2;row 11;row 11;dot 1 1;").dot(0, 6), 0);
  }

  @Sentence("SPOT of a DOT: the CELL with the least DISTANCE, of like ones the least NUMBER.")
  static void promise17SpotJustBesideTheMiddle() {
    // 9 / 17 and 8 / 17
    due(behindARound("size 2 1;row 89;dot 0 0;").dot(0, 6), 1);
    due(behindARound("size 2 1;row 98;dot 0 0;").dot(0, 6), 0);
    due(behindARound("size 1 2;row 8;row 9;dot 0 0;").dot(0, 6), 1);
    due(behindARound("size 1 2;row 9;row 8;dot 0 0;").dot(0, 6), 0);
  }

  @Sentence("have the NUMBER y * WIDTH + x")
  static void promise17NumbersOfTheFirstSpotAndTheLast() {
    SettledDots dots = Boundary.of("size 20 3;dot 0 0;dot 19 0;dot 0 1;dot 19 2;");
    due(dots.dot(0, 6), 0);
    due(dots.dot(1, 6), 19);
    due(dots.dot(2, 6), 20);
    due(dots.dot(3, 6), 59);
    due(Boundary.of("size 20 20;dot 19 19;").dot(0, 6), 399);
  }

  @Sentence("PIECES of a DOT: its CELLS, those side by side together.")
  static void promise17CellsThatMeetByCornersAreSeveralPieces() {
    SettledDots dots = Boundary.of("size 3 3;dot 0 0;dot 2 2;dot 1 1;");
    Boundary.owners(dots, "002", "021", "211");
    due(dots.dot(2, 7), 3);
    due(dots.dot(0, 7), 1);
    due(dots.dot(1, 7), 1);
  }

  @Sentence("PIECES of a DOT: its CELLS, those side by side together.")
  static void promise17LastCellOfARowAndFirstOfTheNextAreTwoPieces() {
    SettledDots dots = behindARound("size 2 2;row 11;row 11;dot 0 0;");
    dots.put(0, 0);
    dots.put(1, 1);
    Boundary.owners(dots, "10", "02");
    due(dots.dot(0, 7), 2);
  }

  @Sentence("PIECES of a DOT: its CELLS, those side by side together.")
  static void promise17FirstCellAloneIsAPiece() {
    SettledDots dots = Boundary.of("size 2 2;dot 1 1;dot 0 0;");
    Boundary.owners(dots, "10", "00");
    due(dots.dot(1, 7), 1);
    due(dots.dot(0, 7), 1);
  }

  @Sentence("PIECES of a DOT: its CELLS, those side by side together.")
  static void promise17FourHundredCellsAreOnePiece() {
    SettledDots dots = Boundary.of("size 20 20;dot 19 19;dot 19 19;");
    due(dots.dot(0, 7), 1);
    due(dots.dot(1, 7), 0);
  }

  // ---- promise 18 ----

  @Sentence("NONE if there is none such, or for another what.")
  static void promise18CellOutsideThePictureIsNone() {
    SettledDots dots = Boundary.of(Boundary.LADEN);
    for (int what = 0; what < 4; what++) {
      Boundary.none(dots.cell(-1, 0, what), dots.cell(-1, 1, what), dots.cell(3, 0, what),
          dots.cell(0, -1, what), dots.cell(3, -1, what), dots.cell(0, 2, what),
          dots.cell(2, 2, what), dots.cell(LEAST, 0, what), dots.cell(MOST, 0, what),
          dots.cell(0, LEAST, what), dots.cell(0, MOST, what));
    }
  }

  @Sentence("NONE if there is none such, or for another what.")
  static void promise18AnotherWhatIsNone() {
    SettledDots dots = Boundary.of(Boundary.LADEN);
    Boundary.none(dots.cell(0, 0, -1), dots.cell(0, 0, 4), dots.cell(0, 0, LEAST),
        dots.cell(0, 0, MOST));
  }

  @Sentence("1: its OWNER (NONE without DOTS)")
  static void promise18OwnerWithoutDotsIsNone() {
    SettledDots dots = Boundary.of("size 3 2;row 123;row 456;");
    Boundary.none(dots.cell(0, 0, 1), dots.cell(2, 1, 1));
    dots.put(0, 0);
    due(dots.cell(2, 1, 1), 0);
    dots.take(0);
    Boundary.none(dots.cell(2, 1, 1));
    Boundary.none(new SettledDots().cell(0, 0, 1), new SettledDots().cell(7, 7, 1));
  }

  @Sentence("its WEIGHT * 1000 * DISTANCE to its OWNER, cut downwards (0 without DOTS)")
  static void promise18CostWithoutDotsIsNaught() {
    SettledDots dots = Boundary.of("size 3 2;row 123;row 456;");
    due(dots.cell(2, 1, 2), 0);
    due(dots.about(4), 0);
    dots.put(0, 0);
    due(dots.cell(2, 1, 2), 30000);
    dots.take(0);
    due(dots.cell(2, 1, 2), 0);
  }

  @Sentence("its WEIGHT * 1000 * DISTANCE to its OWNER, cut downwards (0 without DOTS)")
  static void promise18CostOfTheFarthestCellIsTheMost() {
    due(Boundary.of(NINES + "dot0 0;").cell(19, 19, 2), 6498000);
  }

  @Sentence("3: how many DOTS have it as SPOT.")
  static void promise18SpotOfFortyDotsAndOfNone() {
    SettledDots dots = Boundary.of(FORTY);
    due(dots.cell(0, 0, 3), 40);
    due(dots.cell(1, 0, 3), 0);
    due(new SettledDots().cell(0, 0, 3), 0);
  }

  @Sentence("3: how many DOTS have it as SPOT.")
  static void promise18SpotOfADotBetweenCellsIsOneCellAlone() {
    SettledDots dots = behindARound("size 2 1;row 11;dot 1 0;");
    due(dots.cell(0, 0, 3), 1);
    due(dots.cell(1, 0, 3), 0);
  }

  // ---- promise 19 ----

  @Sentence("The k-th (0: its OWNER) DOT by DISTANCE from a CELL, of like ones the least number first")
  static void promise19NaughtIsTheOwnerAndTheLastTheFarthest() {
    SettledDots dots = Boundary.of("size 5 1;dot 4 0;dot 1 0;dot 0 0;");
    due(dots.near(0, 0, 0), 2);
    due(dots.near(0, 0, 0), dots.cell(0, 0, 1));
    due(dots.near(0, 0, 1), 1);
    due(dots.near(0, 0, 2), 0);
  }

  @Sentence("The k-th (0: its OWNER) DOT by DISTANCE from a CELL, of like ones the least number first")
  static void promise19OfLikeDotsTheLeastNumberComesFirst() {
    SettledDots dots = Boundary.of("size 5 1;dot 4 0;dot 1 0;dot 3 0;dot 0 0;");
    int[] order = {1, 2, 0, 3};
    for (int k = 0; k < 4; k++) {
      due(dots.near(2, 0, k), order[k]);
    }
  }

  @Sentence("The k-th (0: its OWNER) DOT by DISTANCE from a CELL, of like ones the least number first")
  static void promise19FortyLikeDotsComeByNumber() {
    SettledDots dots = Boundary.of(FORTY);
    for (int k = 0; k < 40; k++) {
      due(dots.near(7, 7, k), k);
    }
    due(dots.near(7, 7, 40), NONE);
  }

  @Sentence("NONE if there is none such.")
  static void promise19NoSuchKIsNone() {
    SettledDots dots = Boundary.of(Boundary.LADEN);
    due(dots.near(0, 0, 1), 1);
    Boundary.none(dots.near(0, 0, -1), dots.near(0, 0, 2), dots.near(0, 0, LEAST),
        dots.near(0, 0, MOST));
  }

  @Sentence("NONE if there is none such.")
  static void promise19CellOutsideThePictureIsNone() {
    SettledDots dots = Boundary.of(Boundary.LADEN);
    Boundary.none(dots.near(-1, 0, 0), dots.near(3, 0, 0), dots.near(0, -1, 0),
        dots.near(2, 2, 0), dots.near(LEAST, 0, 0), dots.near(0, MOST, 0));
  }

  @Sentence("NONE if there is none such.")
  static void promise19WithoutDotsIsNone() {
    due(new SettledDots().near(0, 0, 0), NONE);
  }

  // ---- promise 20 ----

  @Sentence("DISTANCE of a CELL and a DOT what 0: whole, 1: thousandths behind that, both cut")
  static void promise20WhereTheDotLiesIsNaught() {
    SettledDots dots = Boundary.of("dot 3 4;");
    due(dots.far(3, 4, 0, 0), 0);
    due(dots.far(3, 4, 0, 1), 0);
  }

  @Sentence("DISTANCE of a CELL and a DOT what 0: whole, 1: thousandths behind that, both cut")
  static void promise20FromCornerToCornerIsTheMost() {
    SettledDots dots = Boundary.of("size 20 20;dot 0 19;");
    due(dots.far(19, 0, 0, 0), 722);
    due(dots.far(19, 0, 0, 1), 0);
  }

  @Sentence("DISTANCE of a CELL and a DOT what 0: whole, 1: thousandths behind that, both cut")
  static void promise20BothAreCut() {
    // 16 / 9 and 4 / 9
    due(thirds().far(0, 0, 0, 0), 1);
    due(thirds().far(0, 0, 0, 1), 777);
    due(thirds().far(2, 0, 0, 0), 0);
    due(thirds().far(2, 0, 0, 1), 444);
  }

  @Sentence("DISTANCE of a CELL and a DOT what 0: whole, 1: thousandths behind that, both cut")
  static void promise20JustBelowOneIs999Thousandths() {
    // At 32 / 33, 8 / 33: 1088 / 1089 from 0, 0.
    SettledDots dots = behindARound("size 3 3;row 998;row 06;row 01;dot 0 0;");
    Boundary.lies(dots, 0, 32, 8, 33);
    due(dots.far(0, 0, 0, 0), 0);
    due(dots.far(0, 0, 0, 1), 999);
  }

  @Sentence("NONE if one can't be, or for another what.")
  static void promise20NoSuchDotIsNone() {
    SettledDots dots = Boundary.of(Boundary.LADEN);
    Boundary.none(dots.far(0, 0, -1, 0), dots.far(0, 0, 2, 0), dots.far(0, 0, LEAST, 1),
        dots.far(0, 0, MOST, 1), new SettledDots().far(0, 0, 0, 0));
  }

  @Sentence("NONE if one can't be, or for another what.")
  static void promise20CellOutsideThePictureIsNone() {
    SettledDots dots = Boundary.of(Boundary.LADEN);
    Boundary.none(dots.far(-1, 0, 0, 0), dots.far(3, 0, 0, 0), dots.far(0, -1, 0, 0),
        dots.far(2, 2, 0, 0), dots.far(MOST, 0, 0, 0), dots.far(0, LEAST, 0, 0));
  }

  @Sentence("NONE if one can't be, or for another what.")
  static void promise20AnotherWhatIsNone() {
    SettledDots dots = Boundary.of(Boundary.LADEN);
    Boundary.none(dots.far(0, 0, 0, -1), dots.far(0, 0, 0, 2), dots.far(0, 0, 0, LEAST),
        dots.far(0, 0, 0, MOST));
  }

  // ---- promise 21 ----

  @Sentence("How many DOTS have a DISTANCE of r * r (r 0 .. 30) at the most from a CELL")
  static void promise21RadiusNaughtIsTheLeast() {
    SettledDots dots = Boundary.of("dot 3 3;dot 3 4;dot 3 3;");
    due(dots.around(3, 3, 0), 2);
    due(dots.around(0, 0, 0), 0);
  }

  @Sentence("How many DOTS have a DISTANCE of r * r (r 0 .. 30) at the most from a CELL")
  static void promise21RadiusThirtyIsTheMost() {
    SettledDots dots = Boundary.of("size 20 20;dot 0 0;dot 19 19;");
    due(dots.around(0, 0, 30), 2);
    due(dots.around(0, 0, 26), 1);
    due(dots.around(0, 0, 27), 2);
  }

  @Sentence("How many DOTS have a DISTANCE of r * r (r 0 .. 30) at the most from a CELL")
  static void promise21DistanceLikeTheSquareCounts() {
    SettledDots dots = Boundary.of("dot 3 4;");
    due(dots.around(0, 0, 5), 1);
    due(dots.around(0, 0, 4), 0);
  }

  @Sentence("How many DOTS have a DISTANCE of r * r (r 0 .. 30) at the most from a CELL")
  static void promise21DistanceAFractionAboveTheSquareDoesNotCount() {
    // At 1, 1 / 2: 5 / 4 from 0, 0 and from 0, 1; 1 / 4 from 1, 0.
    SettledDots dots = behindARound("size 2 2;row 01;row 01;dot 0 0;");
    due(dots.around(0, 0, 1), 0);
    due(dots.around(1, 0, 1), 1);
    due(dots.around(1, 0, 0), 0);
  }

  @Sentence("How many DOTS have a DISTANCE of r * r (r 0 .. 30) at the most from a CELL")
  static void promise21WithoutDotsIsNaught() {
    due(new SettledDots().around(0, 0, 30), 0);
  }

  @Sentence("NONE if one can't be.")
  static void promise21AnotherRadiusIsNone() {
    SettledDots dots = Boundary.of(Boundary.LADEN);
    Boundary.none(dots.around(0, 0, -1), dots.around(0, 0, 31), dots.around(0, 0, LEAST),
        dots.around(0, 0, MOST));
  }

  @Sentence("NONE if one can't be.")
  static void promise21CellOutsideThePictureIsNone() {
    SettledDots dots = Boundary.of(Boundary.LADEN);
    Boundary.none(dots.around(-1, 0, 1), dots.around(3, 0, 1), dots.around(0, -1, 1),
        dots.around(2, 2, 1), dots.around(MOST, 0, 1), dots.around(0, LEAST, 1));
  }

  // ---- promise 22 ----

  private static final String RING =
      "how far the CELL X / D, Y / D, both cut, is from it in x or in y, the greater one";

  @Sentence(RING)
  static void promise22RingWhereTheDotLiesIsNaught() {
    due(Boundary.of("dot 3 4;").ring(3, 4), 0);
  }

  @Sentence(RING)
  static void promise22RingFromCornerToCornerIsTheMost() {
    due(Boundary.of("size 20 20;dot 0 19;").ring(19, 0), 19);
  }

  @Sentence(RING)
  static void promise22PlaceOfTheDotIsCut() {
    // At 19 / 10, 9 / 10: the cell 1, 0.
    SettledDots dots = behindARound("size 3 2;row 001;row 018;dot 0 0;");
    Boundary.lies(dots, 0, 19, 9, 10);
    due(dots.ring(1, 0), 0);
    due(dots.ring(2, 1), 1);
    due(dots.ring(0, 0), 1);
  }

  @Sentence(RING)
  static void promise22TheGreaterOneCounts() {
    SettledDots dots = Boundary.of("dot 3 3;");
    due(dots.ring(7, 2), 4);
    due(dots.ring(0, 4), 3);
    due(dots.ring(2, 7), 4);
    due(dots.ring(4, 0), 3);
  }

  @Sentence("NONE without DOTS, or such a CELL.")
  static void promise22WithoutDotsIsNone() {
    due(new SettledDots().ring(0, 0), NONE);
  }

  @Sentence("NONE without DOTS, or such a CELL.")
  static void promise22CellOutsideThePictureIsNone() {
    SettledDots dots = Boundary.of(Boundary.LADEN);
    Boundary.none(dots.ring(-1, 0), dots.ring(3, 0), dots.ring(0, -1), dots.ring(2, 2),
        dots.ring(LEAST, 0), dots.ring(0, MOST));
  }

  // ---- promise 23 ----

  private static final String CLOSEST =
      "of like ones those with the least lesser number, then the least greater one";

  private static void closest(SettledDots dots, int apart, int lesser, int greater) {
    due(dots.closest(0), apart);
    due(dots.closest(1), lesser);
    due(dots.closest(2), greater);
  }

  @Sentence("The two DOTS that are least far apart (squared, a thousand times, cut)")
  static void promise23TwoDotsAtOneCellAreNaughtApart() {
    closest(Boundary.of("dot 1 1;dot 5 5;dot 1 1;"), 0, 0, 2);
  }

  @Sentence("The two DOTS that are least far apart (squared, a thousand times, cut)")
  static void promise23CornersAreTheMostApart() {
    closest(Boundary.of("size 20 20;dot 19 0;dot 0 19;"), 722000, 0, 1);
  }

  @Sentence("The two DOTS that are least far apart (squared, a thousand times, cut)")
  static void promise23ApartIsCut() {
    SettledDots dots = thirds();
    dots.put(2, 0);
    closest(dots, 444, 0, 1);
    // 1 / 2 and 1: a quarter.
    dots = behindARound("size 2 1;row 11;dot 0 0;");
    dots.put(1, 0);
    closest(dots, 250, 0, 1);
  }

  @Sentence("The two DOTS that are least far apart (squared, a thousand times, cut)")
  static void promise23NeitherNeedBeTheFirstDot() {
    closest(Boundary.of("size 9 1;dot 0 0;dot 4 0;dot 7 0;dot 5 0;"), 1000, 1, 3);
  }

  @Sentence(CLOSEST)
  static void promise23OfLikeOnesTheLeastLesserNumber() {
    // 1 and 2, 0 and 3 are 1 apart.
    closest(Boundary.of("size 9 1;dot 0 0;dot 5 0;dot 6 0;dot 1 0;"), 1000, 0, 3);
  }

  @Sentence(CLOSEST)
  static void promise23ThenTheLeastGreaterNumber() {
    closest(Boundary.of("size 9 1;dot 4 0;dot 8 0;dot 5 0;dot 3 0;"), 1000, 0, 2);
  }

  @Sentence(CLOSEST)
  static void promise23LikeOnesAreThoseWithALikeNumberThoughItWasCut() {
    // Dot 0 at 67 / 33 is 1 / 1089 from dot 1, which is cut to 0; dots 2 and 3 are 0 apart.
    SettledDots dots = behindARound("size 5 1;row 97089;dot 2 0;");
    Boundary.lies(dots, 0, 67, 0, 33);
    dots.put(2, 0);
    dots.put(0, 0);
    dots.put(0, 0);
    closest(dots, 0, 0, 1);
  }

  @Sentence(CLOSEST)
  static void promise23FortyAtOneCellAreTheFirstTwo() {
    closest(Boundary.of(FORTY), 0, 0, 1);
  }

  @Sentence("NONE if there are not two, or for another what.")
  static void promise23WithOneDotOrNoneIsNone() {
    for (int what = 0; what < 3; what++) {
      Boundary.none(Boundary.of("dot 1 1;").closest(what), new SettledDots().closest(what));
    }
  }

  @Sentence("NONE if there are not two, or for another what.")
  static void promise23AnotherWhatIsNone() {
    SettledDots dots = Boundary.of(Boundary.LADEN);
    Boundary.none(dots.closest(-1), dots.closest(3), dots.closest(LEAST), dots.closest(MOST));
  }

  // ---- promise 24 ----

  private static final String LOADS = "Of all DOTS what 0: the greatest LOAD, 1: the least, "
      + "2: the first with the greatest LOAD, 3: the first with the greatest COST.";

  @Sentence(LOADS)
  static void promise24OfOneDotGreatestAndLeastAreOne() {
    SettledDots dots = Boundary.of("row 12;dot 0 0;");
    due(dots.loads(0), 3);
    due(dots.loads(1), 3);
    due(dots.loads(2), 0);
    due(dots.loads(3), 0);
  }

  @Sentence(LOADS)
  static void promise24OfLikeDotsTheFirst() {
    SettledDots dots = Boundary.of("size 8 1;row 00111111;dot 0 0;dot 3 0;dot 6 0;");
    // Loads 0, 3, 3; costs 0, 2000, 2000.
    due(dots.loads(0), 3);
    due(dots.loads(2), 1);
    due(dots.loads(3), 1);
  }

  @Sentence(LOADS)
  static void promise24TheLeastIsNaughtWithAnEmptyDot() {
    due(Boundary.of("row 12;dot 0 0;dot 0 0;").loads(1), 0);
    due(Boundary.of("row 12;dot 0 0;dot 1 0;").loads(1), 1);
  }

  @Sentence(LOADS)
  static void promise24TheLastOfFortyCountsToo() {
    SettledDots dots = Boundary.of("size 3 1;row 102;" + "dot 0 0;".repeat(39) + "dot 1 0;");
    due(dots.loads(0), 2);
    due(dots.loads(2), 39);
    due(dots.loads(3), 39);
  }

  @Sentence("NONE without DOTS, or for another what.")
  static void promise24WithoutDotsIsNone() {
    SettledDots dots = Boundary.of("row 12;");
    Boundary.none(dots.loads(0), dots.loads(1), dots.loads(2), dots.loads(3));
  }

  @Sentence("NONE without DOTS, or for another what.")
  static void promise24AnotherWhatIsNone() {
    SettledDots dots = Boundary.of(Boundary.LADEN);
    Boundary.none(dots.loads(-1), dots.loads(4), dots.loads(LEAST), dots.loads(MOST));
  }

  // ---- promise 25 ----

  @Sentence("How many DOTS have the least DISTANCE to a CELL")
  static void promise25OneIsTheLeast() {
    due(Boundary.of("dot 1 1;").ties(7, 7), 1);
    due(Boundary.of("dot 1 1;dot 2 2;").ties(7, 7), 1);
  }

  @Sentence("How many DOTS have the least DISTANCE to a CELL")
  static void promise25FortyAreTheMost() {
    due(Boundary.of(FORTY).ties(7, 7), 40);
  }

  @Sentence("How many DOTS have the least DISTANCE to a CELL")
  static void promise25LikeFractionsAreLike() {
    // At 1 / 2 and 7 / 2: cell 2 is 9 / 4 from both.
    SettledDots dots = behindARound("size 5 1;row 11011;dot 0 0;dot 4 0;");
    due(dots.ties(2, 0), 2);
    due(dots.ties(1, 0), 1);
  }

  @Sentence("NONE without DOTS, or such a CELL.")
  static void promise25WithoutDotsIsNone() {
    due(new SettledDots().ties(0, 0), NONE);
  }

  @Sentence("NONE without DOTS, or such a CELL.")
  static void promise25CellOutsideThePictureIsNone() {
    SettledDots dots = Boundary.of(Boundary.LADEN);
    Boundary.none(dots.ties(-1, 0), dots.ties(3, 0), dots.ties(0, -1), dots.ties(2, 2),
        dots.ties(LEAST, 0), dots.ties(0, MOST));
  }
}
