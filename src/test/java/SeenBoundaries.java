import java.util.ArrayList;
import java.util.List;
import java.util.function.Consumer;

/** Whatever was asked ahead of a call that changes the picture: behind it answers are of the new one. */
final class SeenBoundaries {
  private SeenBoundaries() {
  }

  /** All that can be asked of a picture with two dots or more, in a small one. */
  private static List<Integer> answers(SettledDots dots) {
    List<Integer> all = new ArrayList<>(Boundary.picture(dots));
    int width = all.get(0);
    int height = all.get(1);
    int count = all.get(2);
    for (int i = 0; i < width * height; i++) {
      all.add(dots.cell(i % width, i / width, 1));
      all.add(dots.cell(i % width, i / width, 3));
    }
    for (int dot = 0; dot < count; dot++) {
      for (int what = 3; what < 8; what++) {
        all.add(dots.dot(dot, what));
      }
      all.addAll(List.of(dots.best(dot, 0), dots.best(dot, 1), dots.edge(dot, 0), dots.edge(dot, 1),
          dots.edge(dot, 2), dots.step(dot), dots.loss(dot), dots.touch(0, dot), dots.way(0, dot)));
    }
    for (int s = 1; s < 10; s++) {
      all.add(dots.due(s));
      all.add(dots.shade(s, 3));
    }
    all.addAll(List.of(dots.loads(0), dots.loads(2), dots.closest(0), dots.moves(), dots.till(0),
        dots.till(1), dots.idle(), dots.more(0), dots.more(1), dots.uneven(1, 1)));
    return all;
  }

  /** An object that was asked all ahead of a call answers as one that was asked nothing. */
  private static void seen(Consumer<SettledDots> ahead, Consumer<SettledDots> call) {
    SettledDots asked = Boundary.of(Boundary.LADEN);
    ahead.accept(asked);
    answers(asked);
    call.accept(asked);
    SettledDots unasked = Boundary.of(Boundary.LADEN);
    ahead.accept(unasked);
    call.accept(unasked);
    Boundary.due(answers(asked).equals(answers(unasked)), true);
  }

  private static void seen(Consumer<SettledDots> call) {
    seen(d -> { }, call);
  }

  @Sentence("The TAPE (empty then, also at a FAULT) is the PICTURE")
  static void promise04PictureIsSeenByAllThatIsAskedBehindIt() {
    seen(d -> {
      Check.tape(d, "size 2 3;row 9;row 08;dot 1 1;dot 0 2;dot 1 2;");
      Boundary.due(d.picture(), 3);
    });
  }

  @Sentence("A DOT more at a CELL: its number")
  static void promise06PutIsSeenByAllThatIsAskedBehindIt() {
    seen(d -> Boundary.due(d.put(1, 1), 2));
  }

  @Sentence("A DOT is taken (those behind it are one less each): DOTS that are left")
  static void promise07TakeIsSeenByAllThatIsAskedBehindIt() {
    seen(d -> Boundary.due(d.put(1, 1), 2), d -> Boundary.due(d.take(1), 2));
  }

  @Sentence("A DOT lies at a CELL: true")
  static void promise08MoveIsSeenByAllThatIsAskedBehindIt() {
    seen(d -> Boundary.due(d.move(0, 2, 0), true));
  }

  @Sentence("How many DOTS there are; NONE, doing nothing (no DRAW, too)")
  static void promise09DrawIsSeenByAllThatIsAskedBehindIt() {
    seen(d -> Boundary.due(d.draw(2), 4));
  }

  @Sentence("A CELL has another WEIGHT (0 .. 9): what it was")
  static void promise11PaintIsSeenByAllThatIsAskedBehindIt() {
    seen(d -> Boundary.due(d.paint(2, 1, 2), 6));
  }

  @Sentence("ROUNDS, n (1 .. 100) or till one by which none MOVES (that one, too): how many")
  static void promise12RoundsAreSeenByAllThatIsAskedBehindThem() {
    seen(d -> Boundary.due(d.rounds(1), 1));
  }

  @Sentence("ADAPTED by low (0 .. 9,999), high (low .. 9,999): DOTS then")
  static void promise13AdaptIsSeenByAllThatIsAskedBehindIt() {
    seen(d -> Boundary.due(d.adapt(0, 7), 3));
  }

  @Sentence("CELL x, y, and what lies there, comes to HEIGHT - 1 - y, x: WIDTH then.")
  static void promise14TurnIsSeenByAllThatIsAskedBehindIt() {
    seen(d -> Boundary.due(d.turn(), 2));
  }

  @Sentence("UNDO: true; false if there is none.")
  static void promise15UndoIsSeenByAllThatIsAskedBehindIt() {
    seen(d -> d.move(1, 0, 1), d -> Boundary.due(d.undo(), true));
  }

  @Sentence("REDO: true; false if there is none.")
  static void promise16RedoIsSeenByAllThatIsAskedBehindIt() {
    seen(d -> {
      d.move(1, 0, 1);
      d.undo();
    }, d -> Boundary.due(d.redo(), true));
  }

  @Sentence("All is as it was kept (no ACTS are kept then): likewise")
  static void promise43BackIsSeenByAllThatIsAskedBehindIt() {
    seen(d -> {
      d.image(0);
      d.move(1, 0, 1);
    }, d -> Boundary.due(d.back(0), 2));
  }
}
