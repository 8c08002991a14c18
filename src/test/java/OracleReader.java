import java.util.ArrayList;
import java.util.List;
import java.util.regex.Matcher;
import java.util.regex.Pattern;

/** Reads a picture for the Oracle: all tokens first, by patterns, then the lines. */
final class OracleReader {
  private static final Pattern TOKEN = Pattern.compile("[ \n]*([a-z]+|[0-9]+|;|\\z|.)", Pattern.DOTALL);

  int fault = 0;
  int place = -1;
  int width = 8;
  int height = 8;
  final List<int[]> dots = new ArrayList<>();
  private final List<String> rows = new ArrayList<>();
  private final List<String> tokens = new ArrayList<>();
  private final List<Integer> places = new ArrayList<>();
  private int at = 0;

  /** A fault ends the reading wherever it is. */
  private static final class Fault extends Exception {
    private static final long serialVersionUID = 1L;
    final int number;
    final int place;

    Fault(int number, int place) {
      this.number = number;
      this.place = place;
    }
  }

  OracleReader(List<Integer> tape) {
    StringBuilder text = new StringBuilder();
    tape.forEach(b -> text.append((char) b.intValue()));
    Matcher matcher = TOKEN.matcher(text);
    while (matcher.find() && !matcher.group(1).isEmpty()) {
      tokens.add(matcher.group(1));
      places.add(matcher.start(1));
    }
    tokens.add("");
    places.add(text.length());
    try {
      read();
    } catch (Fault f) {
      fault = f.number;
      place = f.place;
    }
  }

  List<Integer> weights() {
    List<Integer> weights = new ArrayList<>();
    for (int c = 0; c < width * height; c++) {
      String row = c / width < rows.size() ? rows.get(c / width) : "";
      weights.add(c % width < row.length() ? row.charAt(c % width) - '0' : 0);
    }
    return weights;
  }

  private void read() throws Fault {
    if (peek().equals("size")) {
      at++;
      width = number(1, 20);
      height = number(1, 20);
      take(";");
    }
    while (!peek().isEmpty()) {
      int word = places.get(at);
      String kind = take("row|dot");
      if (kind.equals("row")) {
        if (rows.size() == height) {
          throw new Fault(3, word);
        }
        String digits = take("[0-9]+");
        if (digits.length() > width) {
          throw new Fault(4, places.get(at - 1));
        }
        rows.add(digits);
      } else {
        if (dots.size() == 40) {
          throw new Fault(3, word);
        }
        dots.add(new int[] {number(0, width - 1), number(0, height - 1)});
      }
      take(";");
    }
  }

  /** The token to come; that it is one at all is looked at before anything else is. */
  private String peek() throws Fault {
    String token = tokens.get(at);
    // A letter is directly behind it if the next token is of letters and begins where it ends.
    boolean letterBehind = at + 1 < tokens.size() && tokens.get(at + 1).matches("[a-z]+")
        && places.get(at) + token.length() == places.get(at + 1);
    if (!token.matches("[a-z]{1,8}|[0-9]{1,20}|;|") || letterBehind && token.matches("[0-9]+")) {
      throw new Fault(1, places.get(at));
    }
    return token;
  }

  private String take(String pattern) throws Fault {
    String token = peek();
    if (!token.matches(pattern)) {
      throw new Fault(2, places.get(at));
    }
    at++;
    return token;
  }

  private int number(int least, int most) throws Fault {
    String digits = take("[0-9]+");
    if (digits.length() > 4 || Integer.parseInt(digits) < least || Integer.parseInt(digits) > most) {
      throw new Fault(4, places.get(at - 1));
    }
    return Integer.parseInt(digits);
  }
}
