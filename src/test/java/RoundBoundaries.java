import java.util.List;
import java.util.function.Consumer;

/** Boundary cases of promises 12 to 14 and 32 to 35: rounds, adapted, turned; rounds to come, STEPS. */
final class RoundBoundaries {
  private static final int NONE = Boundary.NONE;
  private static final int LEAST = Boundary.LEAST;
  private static final int MOST = Boundary.MOST;
  /** Still behind two rounds: the first one moves both dots, to 1 / 2 and 5 / 2. */
  private static final String PAIR = "size 4 1;row 1111;dot 0 0;dot 3 0;";
  /** A dot that is still. */
  private static final String STILL = "size 3 1;row 101;dot 1 0;";
  /** LOADS 1; 3 (cells 1, 2 and, by a tie, 3); 10 (cells 4 and 5). */
  private static final String LOADS = "size 6 1;row 111119;dot 0 0;dot 1 0;dot 5 0;";

  private RoundBoundaries() {
  }

  private static void due(long got, long want) {
    Boundary.due(got, want);
  }

  private static void due(boolean got, boolean want) {
    Boundary.due(got, want);
  }

  private static SettledDots behindARound(String text) {
    SettledDots dots = Boundary.of(text);
    due(dots.rounds(1), 1);
    return dots;
  }

  // ---- promise 12: how many ----

  @Sentence("ROUNDS, n (1 .. 100) or till one by which none MOVES (that one, too): how many")
  static void promise12OneRoundIsTheLeast() {
    SettledDots dots = Boundary.of(PAIR);
    due(dots.rounds(1), 1);
    Boundary.lies(dots, 0, 1, 0, 2);
    Boundary.lies(dots, 1, 5, 0, 2);
  }

  @Sentence("ROUNDS, n (1 .. 100) or till one by which none MOVES (that one, too): how many")
  static void promise12HundredRoundsCanBeAskedFor() {
    due(Boundary.of(PAIR).rounds(100), 2);
  }

  @Sentence("ROUNDS, n (1 .. 100) or till one by which none MOVES (that one, too): how many")
  static void promise12HundredRoundsAreMadeIfAllMove() {
    SettledDots dots = Boundary.of(Boundary.LONG_WAY);
    due(dots.rounds(100), 100);
    due(dots.steps(0, 0) > 0, true);
    due(dots.moves() > 0, true);
    due(dots.rounds(99), 99);
    due(dots.rounds(100), 3);
    due(dots.moves(), 0);
  }

  @Sentence("ROUNDS, n (1 .. 100) or till one by which none MOVES (that one, too): how many")
  static void promise12FewerRoundsThanTillStillAreAllMade() {
    SettledDots dots = Boundary.of(Boundary.LONG_WAY);
    due(dots.rounds(7), 7);
    due(dots.steps(NONE, 0), 7);
  }

  @Sentence("ROUNDS, n (1 .. 100) or till one by which none MOVES (that one, too): how many")
  static void promise12TheRoundThatMovesNoneCountsToo() {
    due(Boundary.of(STILL).rounds(1), 1);
    due(Boundary.of(STILL).rounds(5), 1);
    due(Boundary.of(PAIR).rounds(2), 2);
    due(Boundary.of(PAIR).rounds(3), 2);
  }

  @Sentence("NONE, doing nothing, if n can't be, or there are no DOTS.")
  static void promise12NaughtRoundsAreRefused() {
    Boundary.refused(d -> d.rounds(0));
  }

  @Sentence("NONE, doing nothing, if n can't be, or there are no DOTS.")
  static void promise12HundredAndOneRoundsAreRefused() {
    Boundary.refused(d -> d.rounds(101));
    Boundary.refused(d -> d.rounds(MOST));
  }

  @Sentence("NONE, doing nothing, if n can't be, or there are no DOTS.")
  static void promise12RoundsBelowNaughtAreRefused() {
    Boundary.refused(d -> d.rounds(-1));
    Boundary.refused(d -> d.rounds(LEAST));
  }

  @Sentence("NONE, doing nothing, if n can't be, or there are no DOTS.")
  static void promise12RoundsWithoutDotsAreRefused() {
    Boundary.refusedOn(Boundary.of("size 3 2;row 123;"), d -> d.rounds(1));
  }

  // ---- promise 12: where they go ----

  @Sentence("all three divided by the greatest number that divides all")
  static void promise12MiddleAtTheFirstCellIsNaughtByOne() {
    Boundary.lies(behindARound("size 2 2;row 9;dot 1 1;"), 0, 0, 0, 1);
  }

  @Sentence("all three divided by the greatest number that divides all")
  static void promise12WhatDividesTwoOfThreeIsNotDividedBy() {
    Boundary.lies(behindARound("size 2 2;row 03;row 01;dot 0 0;"), 0, 4, 1, 4);
    Boundary.lies(behindARound("size 2 2;row 00;row 31;dot 0 0;"), 0, 1, 4, 4);
  }

  @Sentence("all three divided by the greatest number that divides all")
  static void promise12WhatDividesAllThreeIsDividedBy() {
    Boundary.lies(behindARound("size 2 2;row 11;row 11;dot 0 0;"), 0, 1, 1, 2);
    // 30 and 12 by 18.
    Boundary.lies(behindARound("size 3 2;row 006;row 066;dot 0 0;"), 0, 5, 2, 3);
  }

  @Sentence("MIDDLE of a DOT that is not EMPTY: X its CELLS' WEIGHTS by x together, Y those by y, "
      + "D its LOAD.")
  static void promise12MiddleOfTheGreatestLoad() {
    SettledDots dots = behindARound("size20 20;" + ("row" + "9".repeat(20) + ";").repeat(20) + "dot0 0;");
    due(dots.dot(0, 4), 3600);
    Boundary.lies(dots, 0, 19, 19, 2);
  }

  @Sentence("the DOT is put there, if that is above 0, else stays.")
  static void promise12WithoutWeightsAllStay() {
    SettledDots dots = behindARound("dot 1 1;dot 5 5;dot 1 1;");
    due(dots.steps(0, 0), 0);
    Boundary.lies(dots, 0, 1, 1, 1);
    Boundary.lies(dots, 1, 5, 5, 1);
    Boundary.lies(dots, 2, 1, 1, 1);
  }

  @Sentence("the DOT is put there, if that is above 0, else stays.")
  static void promise12EmptyDotStaysIfEachGreyCellHasADot() {
    SettledDots dots = behindARound("size 3 1;row 9;dot 0 0;dot 2 0;");
    Boundary.lies(dots, 1, 2, 0, 1);
    due(dots.steps(0, 0), 0);
  }

  @Sentence("the DOT is put there, if that is above 0, else stays.")
  static void promise12EmptyDotIsPutForLessThanOne() {
    // Dot 0 goes to 10 / 11, 1 / 11: cells 0, 0 and 1, 1 have 101 / 121, cell 1, 0 has 18 / 121.
    SettledDots dots = behindARound("size 2 2;row 19;row 01;dot 1 1;dot 1 1;");
    Boundary.lies(dots, 0, 10, 1, 11);
    Boundary.lies(dots, 1, 0, 0, 1);
  }

  @Sentence("then EMPTY ones, by number")
  static void promise12EmptyOnesArePutByNumber() {
    // Dot 1 goes to 5; cells 4 and 6 are alike: 0 is put at 4, then 2 at 6.
    SettledDots dots = behindARound("size 7 1;row 0000303;dot 0 0;dot 6 0;dot 6 0;");
    Boundary.lies(dots, 0, 4, 0, 1);
    Boundary.lies(dots, 1, 5, 0, 1);
    Boundary.lies(dots, 2, 6, 0, 1);
  }

  @Sentence("EMPTY is a DOT with LOAD 0.")
  static void promise12DotThatOwnsOnlyCellsOfNaughtIsEmpty() {
    SettledDots dots = Boundary.of("size 5 1;row 20002;dot 1 0;dot 2 0;dot 4 0;");
    due(dots.dot(1, 3), 2);
    due(dots.about(5), 1);
    dots = behindARound("size 7 1;row 0000303;dot 0 0;dot 6 0;");
    Boundary.lies(dots, 0, 4, 0, 1);
  }

  @Sentence("that with the greatest WEIGHT * DISTANCE to that DOT")
  static void promise12EmptyDotIsPutByTheDotsAsTheyLieNow() {
    // Dot 0 goes from 1 to 3: cell 0 has 1 * 9, cell 4 has 3 * 1; ahead of that 1 and 27.
    SettledDots dots = behindARound("size 5 1;row 10003;dot 1 0;dot 1 0;");
    Boundary.lies(dots, 0, 3, 0, 1);
    Boundary.lies(dots, 1, 0, 0, 1);
  }

  @Sentence("(but EMPTY ones that are not put yet) to which it is least now")
  static void promise12EmptyDotThatIsNotPutYetDoesNotCount() {
    // Cells 0 and 4 are alike for dot 0 at 2, though the empty one lies at 0.
    SettledDots dots = behindARound("size 5 1;row 20002;dot 0 0;dot 0 0;");
    Boundary.lies(dots, 0, 2, 0, 1);
    Boundary.lies(dots, 1, 0, 0, 1);
  }

  @Sentence("(but EMPTY ones that are not put yet) to which it is least now")
  static void promise12EmptyDotThatWasPutCountsForTheNext() {
    SettledDots dots = behindARound("size 5 1;row 20002;dot 1 0;dot 1 0;dot 1 0;");
    Boundary.lies(dots, 1, 0, 0, 1);
    Boundary.lies(dots, 2, 4, 0, 1);
  }

  @Sentence("of like ones the least NUMBER: the DOT is put there")
  static void promise12OfLikeCellsTheEmptyDotIsPutAtTheLeastNumber() {
    SettledDots dots = behindARound("size 3 3;row 010;row 101;row 010;dot 0 0;dot 0 0;");
    Boundary.lies(dots, 0, 1, 1, 1);
    Boundary.lies(dots, 1, 1, 0, 1);
  }

  @Sentence("that with the greatest WEIGHT * DISTANCE to that DOT")
  static void promise12OfUnlikeFractionsTheGreaterIsWorse() {
    // 9 and 81 hundredths by dot 0 at 1 / 10; 1 and 1 by dot 1 at 5: the dot is put at 4.
    SettledDots dots = behindARound("size 7 1;row 9100101;dot 0 0;dot 6 0;dot 6 0;");
    Boundary.lies(dots, 0, 1, 0, 10);
    Boundary.lies(dots, 1, 5, 0, 1);
    Boundary.lies(dots, 2, 4, 0, 1);
    // The same from the other side: at 0.
    dots = behindARound("size 7 1;row 1010019;dot 0 0;dot 6 0;dot 6 0;");
    Boundary.lies(dots, 0, 1, 0, 1);
    Boundary.lies(dots, 1, 59, 0, 10);
    Boundary.lies(dots, 2, 0, 0, 1);
  }

  @Sentence("of like ones the least NUMBER: the DOT is put there")
  static void promise12EmptyDotsInOneColumn() {
    SettledDots dots = behindARound("size 1 5;row 2;row 0;row 0;row 0;row 2;" + "dot 0 1;".repeat(3));
    Boundary.lies(dots, 0, 0, 2, 1);
    Boundary.lies(dots, 1, 0, 0, 1);
    Boundary.lies(dots, 2, 0, 4, 1);
  }

  @Sentence("A DOT MOVED, if it lies elsewhere than ahead.")
  static void promise12EmptyDotThatIsPutWhereItLayDidNotMove() {
    due(behindARound("size 5 1;row 20002;dot 0 0;dot 0 0;").steps(0, 0), 1);
    due(behindARound("size 5 1;row 20002;dot 1 0;dot 1 0;").steps(0, 0), 2);
  }

  @Sentence("A DOT MOVED, if it lies elsewhere than ahead.")
  static void promise12DotInItsMiddleDidNotMove() {
    due(behindARound(STILL).steps(0, 0), 0);
    due(behindARound("size 3 1;row 102;dot 1 0;").steps(0, 0), 1);
  }

  // ---- promise 13 ----

  @Sentence("ADAPTED by low (0 .. 9,999), high (low .. 9,999): DOTS then")
  static void promise13LowNaughtIsTheLeast() {
    due(Boundary.of(LOADS).adapt(0, 9), 4);
  }

  @Sentence("ADAPTED by low (0 .. 9,999), high (low .. 9,999): DOTS then")
  static void promise13HighNaughtIsTheLeast() {
    // Dot 0 has nothing above 0; 1 and 2 get one each.
    due(Boundary.of(LOADS).adapt(0, 0), 5);
  }

  @Sentence("ADAPTED by low (0 .. 9,999), high (low .. 9,999): DOTS then")
  static void promise13High9999IsTheMost() {
    due(Boundary.of(LOADS).adapt(2, 9999), 2);
  }

  @Sentence("ADAPTED by low (0 .. 9,999), high (low .. 9,999): DOTS then")
  static void promise13Low9999IsTheMost() {
    due(Boundary.of(LOADS).adapt(9999, 9999), 0);
  }

  @Sentence("ADAPTED by low (0 .. 9,999), high (low .. 9,999): DOTS then")
  static void promise13HighLikeLow() {
    due(Boundary.of(LOADS).adapt(3, 3), 3);
  }

  @Sentence("NONE, doing nothing, if one can't be, or none would be taken or put.")
  static void promise13LowBelowNaughtIsRefused() {
    Boundary.refused(d -> d.adapt(-1, 0));
    Boundary.refused(d -> d.adapt(LEAST, 0));
  }

  @Sentence("NONE, doing nothing, if one can't be, or none would be taken or put.")
  static void promise13HighBelowLowIsRefused() {
    Boundary.refused(d -> d.adapt(9, 8));
    Boundary.refused(d -> d.adapt(0, -1));
    Boundary.refused(d -> d.adapt(9999, LEAST));
  }

  @Sentence("NONE, doing nothing, if one can't be, or none would be taken or put.")
  static void promise13HighAbove9999IsRefused() {
    Boundary.refused(d -> d.adapt(9, 10000));
    Boundary.refused(d -> d.adapt(9, MOST));
  }

  @Sentence("NONE, doing nothing, if one can't be, or none would be taken or put.")
  static void promise13LowAbove9999IsRefused() {
    Boundary.refused(d -> d.adapt(10000, 10000));
    Boundary.refused(d -> d.adapt(MOST, MOST));
  }

  @Sentence("NONE, doing nothing, if one can't be, or none would be taken or put.")
  static void promise13NoneTakenAndNonePutIsRefused() {
    Boundary.refused(d -> d.adapt(0, 9999));
    Boundary.refusedOn(Boundary.of(LOADS), d -> d.adapt(1, 10));
  }

  @Sentence("NONE, doing nothing, if one can't be, or none would be taken or put.")
  static void promise13WithoutDotsIsRefused() {
    Boundary.refusedOn(Boundary.of("size 3 2;row 123;"), d -> d.adapt(5, 5));
    Boundary.refusedOn(Boundary.of("size 3 2;row 123;"), d -> d.adapt(0, 0));
  }

  @Sentence("DOTS with a LOAD below the first one are taken")
  static void promise13LoadLikeLowIsLeft() {
    SettledDots dots = Boundary.of(LOADS);
    due(dots.adapt(1, 9999), NONE);
    due(dots.adapt(3, 9999), 2);
    Boundary.lies(dots, 0, 1, 0, 1);
  }

  @Sentence("DOTS with a LOAD below the first one are taken")
  static void promise13LoadOneBelowLowIsTaken() {
    SettledDots dots = Boundary.of(LOADS);
    due(dots.adapt(4, 9999), 1);
    Boundary.lies(dots, 0, 5, 0, 1);
  }

  @Sentence("DOTS with a LOAD below the first one are taken")
  static void promise13EmptyDotsAreTakenByLowOne() {
    due(Boundary.of("size 2 1;row 10;dot 0 0;dot 1 0;").adapt(0, 9999), NONE);
    due(Boundary.of("size 2 1;row 10;dot 0 0;dot 1 0;").adapt(1, 9999), 1);
  }

  @Sentence("DOTS with a LOAD below the first one are taken")
  static void promise13GreatestLoadIsTakenByOneAboveIt() {
    String nines = "size20 20;" + ("row" + "9".repeat(20) + ";").repeat(20) + "dot0 0;";
    due(Boundary.of(nines).adapt(3600, 9999), NONE);
    due(Boundary.of(nines).adapt(3601, 9999), 0);
    due(Boundary.of(nines).adapt(0, 3600), NONE);
    due(Boundary.of(nines).adapt(0, 3599), 2);
  }

  @Sentence("for each of those left with a LOAD above the second one, by number")
  static void promise13LoadLikeHighGetsNone() {
    due(Boundary.of(LOADS).adapt(0, 10), NONE);
    SettledDots dots = Boundary.of(LOADS);
    due(dots.adapt(0, 3), 4);
    Boundary.lies(dots, 3, 4, 0, 1);
  }

  @Sentence("for each of those left with a LOAD above the second one, by number")
  static void promise13LoadOneAboveHighGetsOne() {
    due(Boundary.of(LOADS).adapt(0, 9), 4);
    SettledDots dots = Boundary.of(LOADS);
    due(dots.adapt(0, 2), 5);
    Boundary.lies(dots, 3, 3, 0, 1);
    Boundary.lies(dots, 4, 4, 0, 1);
  }

  @Sentence("ADAPTED by two numbers, all OWNERS as they are")
  static void promise13LoadOfADotThatIsTakenGoesToNone() {
    // Dot 1 would own cell 0, too, and have a load of 4.
    SettledDots dots = Boundary.of(LOADS);
    due(dots.adapt(2, 3), 3);
    Boundary.lies(dots, 0, 1, 0, 1);
    Boundary.lies(dots, 1, 5, 0, 1);
    Boundary.lies(dots, 2, 4, 0, 1);
  }

  @Sentence("as long as there are fewer than 40")
  static void promise13WithFortyDotsNoneIsPut() {
    SettledDots dots = Boundary.of("size 6 1;row 111119;dot 1 0;dot 5 0;" + "dot 5 0;".repeat(38));
    Boundary.refusedOn(dots, d -> d.adapt(0, 1));
  }

  @Sentence("as long as there are fewer than 40")
  static void promise13With39DotsOnlyTheFirstGetsOne() {
    SettledDots dots = Boundary.of("size 6 1;row 111119;dot 1 0;dot 5 0;" + "dot 5 0;".repeat(37));
    due(dots.adapt(0, 1), 40);
    Boundary.lies(dots, 39, 3, 0, 1);
  }

  @Sentence("as long as there are fewer than 40")
  static void promise13OnesThatAreTakenMakeRoom() {
    SettledDots dots = Boundary.of("size 6 1;row 111119;dot 1 0;dot 5 0;" + "dot 5 0;".repeat(38));
    due(dots.adapt(1, 1), 4);
    Boundary.lies(dots, 2, 3, 0, 1);
    Boundary.lies(dots, 3, 4, 0, 1);
  }

  @Sentence("of like ones the least NUMBER: a DOT more is put there, behind all, if that is above 0.")
  static void promise13OfLikeCellsTheLeastNumber() {
    SettledDots dots = Boundary.of("size 3 3;row 010;row 101;row 010;dot 1 1;");
    due(dots.adapt(0, 3), 2);
    Boundary.lies(dots, 1, 1, 0, 1);
  }

  @Sentence("of like ones the least NUMBER: a DOT more is put there, behind all, if that is above 0.")
  static void promise13DotWithAllItsWeightWhereItLiesGetsNone() {
    Boundary.refusedOn(Boundary.of("size 2 1;row 90;dot 0 0;"), d -> d.adapt(0, 8));
  }

  @Sentence("of like ones the least NUMBER: a DOT more is put there, behind all, if that is above 0.")
  static void promise13DotMoreInOneColumn() {
    SettledDots dots = Boundary.of("size 1 3;row 0;row 0;row 9;dot 0 0;");
    due(dots.adapt(0, 8), 2);
    Boundary.lies(dots, 1, 0, 2, 1);
  }

  @Sentence("of its CELLS that with the greatest WEIGHT * DISTANCE")
  static void promise13OnlyItsOwnCellsCount() {
    // Cell 5 has the greatest of all, 9 * 4, but is dot 1's, whose load is not above 12.
    SettledDots dots = Boundary.of("size 8 1;row 70070909;dot 1 0;dot 7 0;");
    due(dots.dot(0, 4), 14);
    due(dots.dot(1, 4), 18);
    dots.paint(7, 0, 0);
    due(dots.adapt(0, 12), 3);
    Boundary.lies(dots, 2, 3, 0, 1);
  }

  // ---- promise 14 ----

  @Sentence("CELL x, y, and what lies there, comes to HEIGHT - 1 - y, x: WIDTH then.")
  static void promise14TurnOfOneCell() {
    SettledDots dots = Boundary.of("size 1 1;row 7;dot 0 0;");
    due(dots.turn(), 1);
    Boundary.weights(dots, "7");
    Boundary.lies(dots, 0, 0, 0, 1);
    due(dots.about(7), 1);
  }

  @Sentence("CELL x, y, and what lies there, comes to HEIGHT - 1 - y, x: WIDTH then.")
  static void promise14TurnOfOneRow() {
    SettledDots dots = Boundary.of("size 3 1;row 123;dot 2 0;");
    due(dots.turn(), 1);
    Boundary.weights(dots, "1", "2", "3");
    Boundary.lies(dots, 0, 0, 2, 1);
  }

  @Sentence("CELL x, y, and what lies there, comes to HEIGHT - 1 - y, x: WIDTH then.")
  static void promise14TurnOfOneColumn() {
    SettledDots dots = Boundary.of("size 1 3;row 1;row 2;row 3;dot 0 2;");
    due(dots.turn(), 3);
    Boundary.weights(dots, "321");
    Boundary.lies(dots, 0, 0, 0, 1);
  }

  @Sentence("CELL x, y, and what lies there, comes to HEIGHT - 1 - y, x: WIDTH then.")
  static void promise14TurnOfTheCorners() {
    SettledDots dots = Boundary.of("size 3 2;row 123;row 456;dot 0 0;dot 2 0;dot 2 1;dot 0 1;");
    due(dots.turn(), 2);
    Boundary.weights(dots, "41", "52", "63");
    Boundary.lies(dots, 0, 1, 0, 1);
    Boundary.lies(dots, 1, 1, 2, 1);
    Boundary.lies(dots, 2, 0, 2, 1);
    Boundary.lies(dots, 3, 0, 0, 1);
  }

  @Sentence("CELL x, y, and what lies there, comes to HEIGHT - 1 - y, x: WIDTH then.")
  static void promise14TurnOfTwentyByOneTwentyTimes() {
    SettledDots dots = Boundary.of("size 20 1;row 12345678901234567895;dot 19 0;");
    for (int i = 0; i < 20; i++) {
      due(dots.turn(), i % 2 == 0 ? 1 : 20);
    }
    due(dots.cell(19, 0, 0), 5);
    Boundary.lies(dots, 0, 19, 0, 1);
  }

  @Sentence("CELL x, y, and what lies there, comes to HEIGHT - 1 - y, x: WIDTH then.")
  static void promise14TurnOfADotBetweenCells() {
    // At 0, 2 / 3: that comes to 1 - 2 / 3, 0.
    SettledDots dots = behindARound("size 2 2;row 10;row 20;dot 0 0;");
    Boundary.lies(dots, 0, 0, 2, 3);
    dots.turn();
    Boundary.lies(dots, 0, 1, 0, 3);
    dots.turn();
    Boundary.lies(dots, 0, 3, 1, 3);
  }

  @Sentence("CELL x, y, and what lies there, comes to HEIGHT - 1 - y, x: WIDTH then.")
  static void promise14FourTurnsAreNone() {
    SettledDots dots = Boundary.of(Boundary.LADEN);
    List<Integer> ahead = Boundary.picture(dots);
    for (int i = 0; i < 4; i++) {
      dots.turn();
    }
    due(Boundary.picture(dots).equals(ahead), true);
    due(dots.about(7), 4);
  }

  @Sentence("CELL x, y, and what lies there, comes to HEIGHT - 1 - y, x: WIDTH then.")
  static void promise14TurnWithoutDotsAndWeights() {
    SettledDots dots = Boundary.of("size 5 20;");
    due(dots.turn(), 20);
    due(dots.about(1), 5);
    due(dots.about(7), 1);
  }

  // ---- promise 32 ----

  @Sentence("How far away a DOT would be from where it is after a ROUND, squared, a thousand times, cut")
  static void promise32StepOfADotThatWouldNotMoveIsNaught() {
    due(Boundary.of(STILL).step(0), 0);
    due(Boundary.of("dot 3 3;").step(0), 0);
  }

  @Sentence("How far away a DOT would be from where it is after a ROUND, squared, a thousand times, cut")
  static void promise32StepIsCut() {
    // 4 / 3 and 2 / 3 away: 16 / 9 and 4 / 9.
    due(Boundary.of("size 3 1;row 102;dot 0 0;").step(0), 1777);
    due(Boundary.of("size 3 1;row 102;dot 2 0;").step(0), 444);
    due(Boundary.of(PAIR).step(1), 250);
  }

  @Sentence("How far away a DOT would be from where it is after a ROUND, squared, a thousand times, cut")
  static void promise32StepFromCornerToCornerIsTheMost() {
    String corner = "size 20 20;" + "row 0;".repeat(19) + "row " + "0".repeat(19) + "1;dot 0 0;";
    due(Boundary.of(corner).step(0), 722000);
  }

  @Sentence("How far away a DOT would be from where it is after a ROUND, squared, a thousand times, cut")
  static void promise32StepOfAnEmptyDotIsToWhereItIsPut() {
    SettledDots dots = Boundary.of("size 5 1;row 20002;dot 1 0;dot 1 0;dot 1 0;");
    due(dots.step(1), 1000);
    due(dots.step(2), 9000);
  }

  @Sentence("NONE if there is none such.")
  static void promise32StepOfNoSuchDotIsNone() {
    SettledDots dots = Boundary.of(PAIR);
    Boundary.none(dots.step(-1), dots.step(2), dots.step(LEAST), dots.step(MOST));
    Boundary.none(new SettledDots().step(0));
  }

  // ---- promise 33 ----

  @Sentence("How many DOTS would MOVE by a ROUND; NONE if there are none.")
  static void promise33MovesWithoutDotsIsNone() {
    due(new SettledDots().moves(), NONE);
    due(Boundary.of("row 123;").moves(), NONE);
  }

  @Sentence("How many DOTS would MOVE by a ROUND; NONE if there are none.")
  static void promise33MovesOfNoneIsNaught() {
    due(Boundary.of(STILL).moves(), 0);
    due(Boundary.of("dot 1 1;dot 2 2;").moves(), 0);
  }

  @Sentence("How many DOTS would MOVE by a ROUND; NONE if there are none.")
  static void promise33MovesOfAllOfForty() {
    // The first goes to the middle of twenty like columns, the others each to another cell.
    String twoRows = ("row " + "1".repeat(20) + ";").repeat(2);
    SettledDots dots = Boundary.of("size 20 3;" + twoRows + "dot 0 2;".repeat(40));
    due(dots.moves(), 40);
  }

  @Sentence("(Nothing is done; so below.)")
  static void promise33MovesDoesNothing() {
    Boundary.doesNothing(d -> d.moves());
  }

  @Sentence("How far away a DOT would be from where it is after a ROUND, squared, a thousand times, cut")
  static void promise32StepDoesNothing() {
    Boundary.doesNothing(d -> d.step(0));
  }

  // ---- promise 34 ----

  @Sentence("How many ROUNDS till all is STILL (that one, too; 1 .. 200) what 0, COST of the PICTURE then, 1")
  static void promise34TillOfWhatIsStillIsOne() {
    SettledDots dots = Boundary.of(STILL);
    due(dots.till(0), 1);
    due(dots.till(1), 2000);
  }

  @Sentence("How many ROUNDS till all is STILL (that one, too; 1 .. 200) what 0, COST of the PICTURE then, 1")
  static void promise34TheRoundByWhichNoneMovesCountsToo() {
    SettledDots dots = Boundary.of(PAIR);
    due(dots.till(0), 2);
    due(dots.till(1), 1000);
    due(dots.rounds(1), 1);
    due(dots.till(0), 1);
  }

  @Sentence("How many ROUNDS till all is STILL (that one, too; 1 .. 200) what 0, COST of the PICTURE then, 1")
  static void promise34StillByTwoHundredRounds() {
    SettledDots dots = Boundary.of(Boundary.LONG_WAY);
    dots.rounds(2);
    due(dots.till(0), 200);
    int cost = dots.till(1);
    dots.rounds(100);
    due(dots.till(0), 100);
    due(dots.till(1), cost);
    due(dots.rounds(100), 100);
    due(dots.about(4), cost);
    due(dots.till(1), cost);
  }

  @Sentence("NONE if it is not by so many")
  static void promise34NotStillByTwoHundredRoundsIsNone() {
    SettledDots dots = Boundary.of(Boundary.LONG_WAY);
    Boundary.none(dots.till(0), dots.till(1));
    dots.rounds(1);
    Boundary.none(dots.till(0), dots.till(1));
  }

  @Sentence("How many ROUNDS till all is STILL (that one, too; 1 .. 200) what 0, COST of the PICTURE then, 1")
  static void promise34WithoutWeightsAllIsStill() {
    due(Boundary.of("dot 1 1;dot 2 2;").till(0), 1);
    due(Boundary.of("dot 1 1;dot 2 2;").till(1), 0);
  }

  @Sentence("there are no DOTS, or for another what.")
  static void promise34WithoutDotsIsNone() {
    SettledDots dots = Boundary.of("row 123;");
    Boundary.none(dots.till(0), dots.till(1));
  }

  @Sentence("there are no DOTS, or for another what.")
  static void promise34AnotherWhatIsNone() {
    SettledDots dots = Boundary.of(PAIR);
    Boundary.none(dots.till(-1), dots.till(2), dots.till(LEAST), dots.till(MOST));
  }

  @Sentence("How many ROUNDS till all is STILL (that one, too; 1 .. 200) what 0, COST of the PICTURE then, 1")
  static void promise34TillDoesNothing() {
    Boundary.doesNothing(d -> d.till(0));
    Boundary.doesNothing(d -> d.till(1));
  }

  // ---- promise 35 ----

  @Sentence("Of STEPS how many there are (k NONE; what is no matter)")
  static void promise35ThereAreNoneAtFirst() {
    due(new SettledDots().steps(NONE, 0), 0);
    due(Boundary.of(PAIR).steps(NONE, 0), 0);
  }

  @Sentence("Of STEPS how many there are (k NONE; what is no matter)")
  static void promise35ForHowManyAnotherWhatIsNoMatter() {
    SettledDots dots = behindARound(PAIR);
    for (int what : new int[] {0, 1, 2, -1, LEAST, MOST}) {
      due(dots.steps(NONE, what), 1);
    }
  }

  @Sentence("of the k-th latest (0 ..) what 0: how many MOVED, 1: COST ahead of it.")
  static void promise35TheLatestIsNaughtTheOldestTheLast() {
    SettledDots dots = Boundary.of(PAIR);
    dots.rounds(100);
    due(dots.steps(0, 0), 0);
    due(dots.steps(0, 1), 1000);
    due(dots.steps(1, 0), 2);
    due(dots.steps(1, 1), 2000);
  }

  @Sentence("NONE if there is none such, or for another what.")
  static void promise35BehindTheOldestIsNone() {
    SettledDots dots = behindARound(PAIR);
    Boundary.none(dots.steps(1, 0), dots.steps(1, 1), dots.steps(20, 0), dots.steps(MOST, 0));
    Boundary.none(Boundary.of(PAIR).steps(0, 0));
  }

  @Sentence("NONE if there is none such, or for another what.")
  static void promise35BelowMinusOneIsNone() {
    SettledDots dots = behindARound(PAIR);
    Boundary.none(dots.steps(-2, 0), dots.steps(-2, 1), dots.steps(LEAST, 0));
  }

  @Sentence("NONE if there is none such, or for another what.")
  static void promise35AnotherWhatIsNone() {
    SettledDots dots = behindARound(PAIR);
    Boundary.none(dots.steps(0, -1), dots.steps(0, 2), dots.steps(0, LEAST), dots.steps(0, MOST));
  }

  @Sentence("STEPS: of the latest ROUNDS (20 at most;")
  static void promise35TwentyAreKept() {
    SettledDots dots = Boundary.of(Boundary.LONG_WAY);
    int cost = dots.about(4);
    dots.rounds(20);
    due(dots.steps(NONE, 0), 20);
    due(dots.steps(19, 1), cost);
    due(dots.steps(20, 1), NONE);
  }

  @Sentence("STEPS: of the latest ROUNDS (20 at most;")
  static void promise35OfTwentyOneTheOldestGoes() {
    SettledDots dots = behindARound(Boundary.LONG_WAY);
    int cost = dots.about(4);
    dots.rounds(20);
    due(dots.steps(NONE, 0), 20);
    due(dots.steps(19, 1), cost);
    due(dots.steps(20, 1), NONE);
  }

  @Sentence("STEPS: of the latest ROUNDS (20 at most;")
  static void promise35OfAHundredTheLatestTwentyAreLeft() {
    SettledDots dots = Boundary.of(Boundary.LONG_WAY);
    dots.rounds(80);
    int cost = dots.about(4);
    dots.rounds(20);
    due(dots.steps(19, 1), cost);
    dots = Boundary.of(Boundary.LONG_WAY);
    dots.rounds(100);
    due(dots.steps(NONE, 0), 20);
    due(dots.steps(19, 1), cost);
  }

  @Sentence("STEPS: of the latest ROUNDS (20 at most;")
  static void promise35TheyGoOnOverSeveralCalls() {
    SettledDots dots = behindARound(PAIR);
    dots.rounds(1);
    due(dots.steps(NONE, 0), 2);
    due(dots.steps(1, 0), 2);
  }

  private static void noneBehind(Consumer<SettledDots> call) {
    SettledDots dots = Boundary.of(Boundary.LADEN);
    dots.image(0);
    dots.rounds(2);
    due(dots.steps(NONE, 0) > 0, true);
    call.accept(dots);
    due(dots.steps(NONE, 0), 0);
    due(dots.steps(0, 0), NONE);
  }

  @Sentence("none behind any other ACT, UNDO, REDO, picture(), back()")
  static void promise35NoneBehindEachOtherAct() {
    noneBehind(d -> due(d.put(1, 1), 2));
    noneBehind(d -> due(d.take(0), 1));
    noneBehind(d -> due(d.move(0, 2, 0), true));
    noneBehind(d -> due(d.draw(1), 3));
    noneBehind(d -> due(d.paint(0, 0, 0), 1));
    noneBehind(d -> due(d.adapt(9999, 9999), 0));
    noneBehind(d -> due(d.turn(), 2));
  }

  @Sentence("none behind any other ACT, UNDO, REDO, picture(), back()")
  static void promise35NoneBehindUndo() {
    noneBehind(d -> due(d.undo(), true));
  }

  @Sentence("none behind any other ACT, UNDO, REDO, picture(), back()")
  static void promise35NoneBehindRedo() {
    SettledDots dots = behindARound(PAIR);
    dots.undo();
    due(dots.redo(), true);
    due(dots.steps(NONE, 0), 0);
  }

  @Sentence("none behind any other ACT, UNDO, REDO, picture(), back()")
  static void promise35NoneBehindPicture() {
    noneBehind(d -> due(d.picture(), 0));
  }

  @Sentence("none behind any other ACT, UNDO, REDO, picture(), back()")
  static void promise35NoneBehindBack() {
    noneBehind(d -> due(d.back(0), 2));
  }

  @Sentence("none behind any other ACT, UNDO, REDO, picture(), back()")
  static void promise35TheyStayBehindWhatIsNoneOfThese() {
    SettledDots dots = behindARound(PAIR);
    dots.seed(5);
    dots.image(0);
    dots.image(1);
    dots.feed(0, 0, 0, 0, 0);
    dots.end(0);
    dots.put(4, 0);
    dots.redo();
    dots.back(2);
    due(dots.steps(NONE, 0), 1);
    due(dots.steps(0, 0), 2);
    due(dots.steps(0, 1), 2000);
  }

  @Sentence("none behind any other ACT, UNDO, REDO, picture(), back()")
  static void promise35OneBehindAnActAndARound() {
    SettledDots dots = behindARound(PAIR);
    dots.rounds(1);
    dots.put(1, 0);
    dots.rounds(1);
    due(dots.steps(NONE, 0), 1);
  }
}
