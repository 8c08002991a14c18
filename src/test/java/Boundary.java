import java.util.ArrayList;
import java.util.List;
import java.util.function.ToIntFunction;

/** What the tests of boundary cases share: due answers, refused calls, faults of texts. */
final class Boundary {
  static final int NONE = SettledDots.NONE;
  static final int LEAST = Integer.MIN_VALUE;
  static final int MOST = Integer.MAX_VALUE;
  /** Three columns and two rows, so that x and y can't be taken for one another. */
  static final String LADEN = "size 3 2;row 123;row 456;dot 0 0;dot 2 1;";

  /** Eleven dots that are still by the 202nd round, not sooner; the longest way that was found. */
  static final String LONG_WAY =
      "size20 20;"
      + "row88263002516200929170;row56355051089762114971;row90893683636933617291;"
      + "row33183020786645915713;row65957767486095372733;row74940939290840834164;"
      + "row72126892363883994837;row27193683832088322871;row97348456577448972950;"
      + "row91192495759623330220;row63781654198572203099;row23663626742055695447;"
      + "row23267252246711681594;row33260134619313821654;row18340327273671428632;"
      + "row23734070322755864964;row28665454405671866720;row08492171103317173689;"
      + "row03950746718064520279;row39964788096233803299;"
      + "dot1 0;dot5 16;dot3 1;dot4 1;dot3 6;dot17 6;"
      + "dot6 1;dot15 11;dot5 8;dot0 0;dot0 3;";

  private static final List<String> WRONG = new ArrayList<>();
  private static int answers = 0;

  private Boundary() {
  }

  static int answers() {
    return answers;
  }

  /** The wrong answers since the last time that they were asked for. */
  static List<String> wrong() {
    List<String> wrong = List.copyOf(WRONG);
    WRONG.clear();
    return wrong;
  }

  static void due(long got, long want) {
    answers++;
    if (got != want) {
      WRONG.add(line() + " answered " + got + ", due is " + want);
    }
  }

  static void due(boolean got, boolean want) {
    due(got ? 1 : 0, want ? 1 : 0);
  }

  static void none(int... got) {
    for (int answer : got) {
      due(answer, NONE);
    }
  }

  private static String line() {
    return StackWalker.getInstance().walk(frames -> frames
        .filter(f -> f.getMethodName().contains("promise"))
        .map(f -> f.getFileName() + ":" + f.getLineNumber()).findFirst().orElse("?"));
  }

  // ---- pictures ----

  static SettledDots of(String text) {
    SettledDots dots = new SettledDots();
    Check.tape(dots, text);
    if (dots.picture() == NONE) {
      WRONG.add(line() + " FAULT " + dots.fault(0) + " at " + dots.fault(1) + " in '" + text + "'");
    }
    return dots;
  }

  static void faultOf(String text, int fault, int place) {
    SettledDots dots = new SettledDots();
    Check.tape(dots, text);
    due(dots.picture(), NONE);
    due(dots.fault(0), fault);
    due(dots.fault(1), place);
  }

  /** Weights, by row, of the picture as it is. */
  static void weights(SettledDots dots, String... rows) {
    due(dots.about(1), rows.length);
    for (int y = 0; y < rows.length; y++) {
      due(dots.about(0), rows[y].length());
      for (int x = 0; x < rows[y].length(); x++) {
        due(dots.cell(x, y, 0), rows[y].charAt(x) - '0');
      }
    }
  }

  /** OWNERS, by row, each as one digit. */
  static void owners(SettledDots dots, String... rows) {
    for (int y = 0; y < rows.length; y++) {
      for (int x = 0; x < rows[y].length(); x++) {
        due(dots.cell(x, y, 1), rows[y].charAt(x) - '0');
      }
    }
  }

  static void lies(SettledDots dots, int dot, int x, int y, int d) {
    due(dots.dot(dot, 0), x);
    due(dots.dot(dot, 1), y);
    due(dots.dot(dot, 2), d);
  }

  // ---- calls that are refused ----

  /** A picture with all that a call could spoil: dots, a seed, a box, bytes, an ACT, STEPS. */
  static SettledDots ladenWithSteps() {
    SettledDots dots = of(LADEN);
    dots.seed(77);
    dots.image(0);
    dots.feed(1, 2, 3, 4, 5);
    dots.rounds(1);
    return dots;
  }

  /** The same with ACTS that can be redone (behind which there are no STEPS). */
  static SettledDots ladenWithRedo() {
    SettledDots dots = of(LADEN);
    dots.seed(78);
    dots.image(1);
    dots.put(1, 1);
    dots.put(1, 0);
    dots.undo();
    dots.feed(1, 2, 3, 4, 5);
    return dots;
  }

  /** NONE, doing nothing, whatever there is to be done away with. */
  static void refused(ToIntFunction<SettledDots> call) {
    refusedOn(ladenWithSteps(), call);
    refusedOn(ladenWithRedo(), call);
  }

  static void refusedOn(SettledDots dots, ToIntFunction<SettledDots> call) {
    List<Integer> ahead = state(dots);
    due(call.applyAsInt(dots), NONE);
    due(state(dots).equals(ahead), true);
  }

  /** A question, whatever it answers. */
  static void doesNothing(ToIntFunction<SettledDots> question) {
    for (SettledDots dots : List.of(ladenWithSteps(), ladenWithRedo())) {
      List<Integer> ahead = state(dots);
      due(question.applyAsInt(dots) != NONE, true);
      due(state(dots).equals(ahead), true);
    }
  }

  /** All that can be asked for that a call may change. */
  static List<Integer> state(SettledDots dots) {
    List<Integer> state = picture(dots);
    for (int what = 7; what < 10; what++) {
      state.add(dots.about(what));
    }
    for (int k = NONE; k < 3; k++) {
      state.add(dots.steps(k, 0));
      state.add(dots.steps(k, 1));
    }
    for (int i = 0; i < 6; i++) {
      state.add(dots.against(i / 3, i % 3));
    }
    state.add(dots.fault(0));
    state.add(dots.fault(1));
    return state;
  }

  /** What image() keeps and UNDO gives back: sizes, the seed, DOTS, WEIGHTS (of 64 CELLS at most). */
  static List<Integer> picture(SettledDots dots) {
    List<Integer> picture = new ArrayList<>();
    for (int what = 0; what < 7; what++) {
      picture.add(dots.about(what));
    }
    int width = picture.get(0);
    int height = picture.get(1);
    int count = picture.get(2);
    for (int i = 0; i < count * 3; i++) {
      picture.add(dots.dot(i / 3, i % 3));
    }
    for (int i = 0; i < width * height && i < 64; i++) {
      picture.add(dots.cell(i % width, i / width, 0));
    }
    return picture;
  }
}
