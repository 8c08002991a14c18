import java.util.List;
import java.util.function.Consumer;

/** Boundary cases of promises 15 and 16: what UNDO takes back, what REDO does again. */
final class UndoBoundaries {
  private static final int NONE = Boundary.NONE;

  private UndoBoundaries() {
  }

  private static void due(long got, long want) {
    Boundary.due(got, want);
  }

  private static void due(boolean got, boolean want) {
    Boundary.due(got, want);
  }

  /** As many dots are put as there are acts. */
  private static SettledDots withActs(int n) {
    SettledDots dots = new SettledDots();
    for (int i = 0; i < n; i++) {
      due(dots.put(i % 8, i / 8), i);
    }
    return dots;
  }

  /**
   * An act is one ACT; UNDO gives the picture ahead of it, REDO the one behind it. None of them touches
   * the seed (but a draw), the boxes, the tape or the latest FAULT.
   */
  private static void isOneAct(int seedThen, Consumer<SettledDots> act) {
    SettledDots dots = Boundary.of(Boundary.LADEN);
    Check.tape(dots, "row 1;?");
    dots.picture();
    dots.seed(77);
    dots.image(1);
    dots.feed(1, 2, 3, 4, 5);
    List<Integer> ahead = Boundary.picture(dots);
    act.accept(dots);
    List<Integer> behind = Boundary.picture(dots);
    due(dots.about(6), seedThen);
    due(dots.about(7), 1);
    due(dots.about(8), 0);
    due(ahead.equals(behind), false);
    due(dots.undo(), true);
    due(Boundary.picture(dots).equals(ahead), true);
    due(dots.against(1, 0) + dots.against(1, 1) + dots.against(1, 2), 0);
    due(dots.about(7), 0);
    due(dots.about(8), 1);
    due(dots.redo(), true);
    due(Boundary.picture(dots).equals(behind), true);
    due(dots.about(7), 1);
    due(dots.about(8), 0);
    due(dots.about(9), 20);
    due(dots.fault(0), 1);
    due(dots.fault(1), 6);
    due(dots.back(1), 2);
    due(Boundary.picture(dots).equals(ahead), true);
  }

  private static void isOneAct(Consumer<SettledDots> act) {
    isOneAct(77, act);
  }

  // ---- each act ----

  private static final String ACTS =
      "ACTS: a DOT put, taken, moved, DOTS drawn, a CELL painted, ADAPTED, turned, ROUNDS.";

  @Sentence(ACTS)
  static void promise06PutIsAnAct() {
    isOneAct(d -> d.put(1, 1));
  }

  @Sentence(ACTS)
  static void promise07TakeIsAnAct() {
    isOneAct(d -> d.take(0));
  }

  @Sentence(ACTS)
  static void promise08MoveIsAnAct() {
    isOneAct(d -> d.move(1, 1, 0));
  }

  @Sentence(ACTS)
  static void promise09DrawOfSeveralDotsIsOneAct() {
    // Three times: times 1103515245, more by 12345, the rest by 2147483648.
    isOneAct(1289087568, d -> d.draw(3));
  }

  @Sentence(ACTS)
  static void promise11PaintIsAnAct() {
    isOneAct(d -> d.paint(2, 1, 0));
  }

  @Sentence("how many (one ACT)")
  static void promise12SeveralRoundsAreOneAct() {
    isOneAct(d -> due(d.rounds(100) > 1, true));
  }

  @Sentence(ACTS)
  static void promise13AdaptIsAnAct() {
    isOneAct(d -> due(d.adapt(0, 7), 3));
  }

  @Sentence(ACTS)
  static void promise14TurnIsAnAct() {
    isOneAct(d -> d.turn());
  }

  @Sentence(ACTS)
  static void promise12RoundThatMovesNoneIsAnActToo() {
    SettledDots dots = Boundary.of("size 3 1;row 101;dot 1 0;");
    due(dots.rounds(1), 1);
    due(dots.about(7), 1);
    due(dots.undo(), true);
  }

  @Sentence(ACTS)
  static void promise42ImageIsNoAct() {
    SettledDots dots = Boundary.ladenWithRedo();
    due(dots.image(0), 3);
    due(dots.about(7), 1);
    due(dots.about(8), 1);
  }

  // ---- promise 15 ----

  @Sentence("UNDO: true; false if there is none.")
  static void promise15UndoOfANewObjectIsFalse() {
    due(new SettledDots().undo(), false);
  }

  @Sentence("UNDO: true; false if there is none.")
  static void promise15UndoThatIsFalseDoesNothing() {
    SettledDots dots = Boundary.of(Boundary.LADEN);
    dots.put(1, 1);
    dots.undo();
    Boundary.refusedOn(dots, d -> d.undo() ? 1 : NONE);
    dots = Boundary.ladenWithSteps();
    dots.undo();
    Boundary.refusedOn(dots, d -> d.undo() ? 1 : NONE);
  }

  @Sentence("UNDO takes back the latest ACT that was not")
  static void promise15SecondUndoTakesBackTheActAheadOfIt() {
    SettledDots dots = Boundary.of("size 2 1;row 12;");
    dots.paint(0, 0, 5);
    dots.paint(1, 0, 6);
    due(dots.undo(), true);
    Boundary.weights(dots, "52");
    due(dots.undo(), true);
    Boundary.weights(dots, "12");
    due(dots.undo(), false);
  }

  @Sentence("UNDO takes back the latest ACT that was not")
  static void promise15UndoBehindRedoTakesBackTheSameActAgain() {
    SettledDots dots = withActs(2);
    dots.undo();
    dots.redo();
    due(dots.undo(), true);
    due(dots.about(2), 1);
  }

  @Sentence("(the seed, too)")
  static void promise15SeedAheadOfTheDrawComesBack() {
    SettledDots dots = Boundary.of("row 99;");
    dots.seed(3);
    dots.draw(1);
    due(dots.undo(), true);
    due(dots.about(6), 3);
    // So the same is drawn again.
    dots.draw(1);
    int seed = dots.about(6);
    dots.undo();
    dots.draw(1);
    due(dots.about(6), seed);
  }

  @Sentence("(the seed, too)")
  static void promise15SeedThatWasSetSinceTheActGoesToo() {
    SettledDots dots = new SettledDots();
    dots.seed(3);
    dots.put(0, 0);
    dots.seed(8);
    dots.undo();
    due(dots.about(6), 3);
  }

  @Sentence("12 at most are kept, the oldest go.")
  static void promise15TwelveActsCanBeUndone() {
    SettledDots dots = withActs(12);
    due(dots.about(7), 12);
    for (int i = 11; i >= 0; i--) {
      due(dots.undo(), true);
      due(dots.about(2), i);
    }
    due(dots.undo(), false);
  }

  @Sentence("12 at most are kept, the oldest go.")
  static void promise15OfThirteenActsTheOldestIsGone() {
    SettledDots dots = withActs(13);
    due(dots.about(7), 12);
    for (int i = 12; i >= 1; i--) {
      due(dots.undo(), true);
      due(dots.about(2), i);
    }
    due(dots.undo(), false);
    due(dots.about(2), 1);
  }

  @Sentence("12 at most are kept, the oldest go.")
  static void promise15ManyActsMoreThanTwelveWrapAround() {
    SettledDots dots = withActs(37);
    for (int i = 36; i >= 25; i--) {
      due(dots.undo(), true);
      due(dots.about(2), i);
    }
    due(dots.undo(), false);
    due(dots.about(8), 12);
  }

  @Sentence("12 at most are kept, the oldest go.")
  static void promise15ActsBehindSomeThatWereUndoneCountUpToTwelveAgain() {
    SettledDots dots = withActs(20);
    for (int i = 0; i < 5; i++) {
      dots.undo();
    }
    due(dots.about(7), 7);
    for (int i = 0; i < 6; i++) {
      due(dots.take(0), 14 - i);
      due(dots.about(7), Math.min(8 + i, 12));
    }
    // Fifteen were left, of which the acts that put 9 to 15 are kept, all but the first.
    for (int i = 0; i < 6; i++) {
      due(dots.undo(), true);
    }
    due(dots.about(2), 15);
    for (int i = 14; i >= 9; i--) {
      due(dots.undo(), true);
      due(dots.about(2), i);
    }
    due(dots.undo(), false);
  }

  @Sentence("12 at most are kept, the oldest go.")
  static void promise15RefusedCallsAreNotKept() {
    SettledDots dots = withActs(12);
    dots.put(9, 9);
    dots.take(40);
    dots.move(0, 0, 0);
    dots.draw(1);
    dots.paint(0, 0, 0);
    dots.rounds(0);
    dots.adapt(1, 0);
    due(dots.about(7), 12);
    for (int i = 0; i < 12; i++) {
      due(dots.undo(), true);
    }
    due(dots.about(2), 0);
  }

  // ---- promise 16 ----

  @Sentence("REDO: true; false if there is none.")
  static void promise16RedoOfANewObjectIsFalse() {
    due(new SettledDots().redo(), false);
  }

  @Sentence("REDO: true; false if there is none.")
  static void promise16RedoThatIsFalseDoesNothing() {
    Boundary.refusedOn(Boundary.ladenWithSteps(), d -> d.redo() ? 1 : NONE);
  }

  @Sentence("REDO does that again which was taken back last")
  static void promise16OfTwoThatWereTakenBackTheLastComesFirst() {
    SettledDots dots = Boundary.of("size 2 1;row 12;");
    dots.paint(0, 0, 5);
    dots.paint(1, 0, 6);
    dots.undo();
    dots.undo();
    due(dots.redo(), true);
    Boundary.weights(dots, "52");
    due(dots.redo(), true);
    Boundary.weights(dots, "56");
    due(dots.redo(), false);
  }

  @Sentence("REDO does that again which was taken back last")
  static void promise16SeedBehindTheDrawComesAgain() {
    SettledDots dots = Boundary.of("row 99;");
    dots.draw(1);
    dots.undo();
    due(dots.redo(), true);
    due(dots.about(6), 12345);
  }

  @Sentence("(till another ACT)")
  static void promise16NoneBehindAnotherAct() {
    SettledDots dots = withActs(3);
    dots.undo();
    dots.undo();
    due(dots.about(8), 2);
    due(dots.put(7, 7), 1);
    due(dots.about(8), 0);
    due(dots.redo(), false);
    due(dots.about(2), 2);
  }

  @Sentence("(till another ACT)")
  static void promise16NoneBehindAnotherRounds() {
    SettledDots dots = Boundary.of("size 2 1;row 11;dot 0 0;");
    dots.put(1, 0);
    dots.undo();
    due(dots.rounds(1), 1);
    due(dots.about(8), 0);
    due(dots.redo(), false);
  }

  @Sentence("(till another ACT)")
  static void promise16StillThereBehindWhatIsNoAct() {
    SettledDots dots = Boundary.of("size 2 1;");
    dots.put(1, 0);
    dots.undo();
    dots.put(2, 0);
    dots.seed(4);
    dots.image(0);
    dots.feed(0, 0, 0, 0, 0);
    dots.picture();
    due(dots.fault(0), 1);
    due(dots.redo(), true);
    Boundary.lies(dots, 0, 1, 0, 1);
  }

  @Sentence("12 at most are kept, the oldest go.")
  static void promise16TwelveActsCanBeRedone() {
    SettledDots dots = withActs(15);
    for (int i = 0; i < 12; i++) {
      dots.undo();
    }
    due(dots.about(8), 12);
    due(dots.about(2), 3);
    for (int i = 4; i <= 15; i++) {
      due(dots.redo(), true);
      due(dots.about(2), i);
    }
    due(dots.redo(), false);
    due(dots.about(7), 12);
  }
}
