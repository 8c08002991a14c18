/** Each promise by answers that were worked out by hand: ordinary inputs, edges, wrong inputs. */
public final class PromiseTest {
  private static final int NONE = SettledDots.NONE;
  private static final String PAIR = "size 4 1;row 1111;dot 0 0;dot 3 0;";
  private static final Check CHECK = new Check("PromiseTest");

  public static void main(String[] args) {
    newObject();
    tape();
    picture();
    faultsOfSigns();
    faultsOfLettersBehindDigits();
    faultsBehindTheEnd();
    faultsOfPlaces();
    faultsOfNumbers();
    faultsOfTooMany();
    faultStays();
    put();
    take();
    move();
    draw();
    seed();
    paint();
    rounds();
    roundsOfEmptyDots();
    adapt();
    turn();
    undoAndRedo();
    undoKeepsTwelve();
    undoTakesBackTheSeed();
    dot();
    piecesOfADot();
    cell();
    nearAndFar();
    around();
    ring();
    closest();
    loads();
    ties();
    shareDue();
    best();
    edge();
    touchAndWay();
    shade();
    stepAndMoves();
    till();
    steps();
    lossAndIdle();
    more();
    tone();
    uneven();
    boxes();
    about();
    CHECK.close();
  }

  private static void is(String call, long got, long want) {
    CHECK.due(call, got, want);
  }

  private static void is(String call, boolean got, boolean want) {
    CHECK.due(call, got, want);
  }

  private static void faultIs(String text, int fault, int place) {
    SettledDots dots = new SettledDots();
    Check.tape(dots, text);
    int answer = dots.picture();
    is("picture of '" + text + "' has a fault", answer == NONE, fault != 0);
    is("fault(0) of '" + text + "'", dots.fault(0), fault);
    is("fault(1) of '" + text + "'", dots.fault(1), place);
    is("fault(2) of '" + text + "'", dots.fault(2), NONE);
    is("about(9) behind '" + text + "'", dots.about(9), 0);
  }

  private static void newObject() {
    SettledDots dots = new SettledDots();
    int[] about = {8, 8, 0, 0, 0, 0, 0, 0, 0, 0};
    for (int what = 0; what < about.length; what++) {
      is("1: about(" + what + ")", dots.about(what), about[what]);
    }
    is("1: fault(0)", dots.fault(0), 0);
    is("1: fault(1)", dots.fault(1), NONE);
    is("1: NONE", SettledDots.NONE, -1);
    is("1: cell(7, 7, 0)", dots.cell(7, 7, 0), 0);
    is("1: cell(7, 7, 2)", dots.cell(7, 7, 2), 0);
  }

  private static void tape() {
    SettledDots dots = new SettledDots();
    for (int i = 1; i <= 45; i++) {
      is("2: feed " + i, dots.feed(0, 0, 0, 0, 0), 20 * i);
    }
    is("2: feed 46", dots.feed(0, 0, 0, 0, 0), NONE);
    is("2: about(9)", dots.about(9), 900);
    is("3: end(901)", dots.end(901), NONE);
    is("3: end(-1)", dots.end(-1), NONE);
    is("3: end(881)", dots.end(881), 881);
    is("2: feed behind 881", dots.feed(0, 0, 0, 0, 0), NONE);
    is("3: end(880)", dots.end(880), 880);
    is("2: feed behind 880", dots.feed(0, 0, 0, 0, 0), 900);
    is("3: end(0)", dots.end(0), 0);
    is("3: end(1)", dots.end(1), NONE);
    is("2: a row over five numbers",
        dots.feed(0x726f7720, 0x31323334, 0x35363738, 0x3b726f77, 0x20393b20), 20);
    is("3: end of all there are", dots.end(20), 20);
    is("4: picture()", dots.picture(), 0);
    is("2: first weight", dots.cell(0, 0, 0), 1);
    is("2: eighth weight", dots.cell(7, 0, 0), 8);
    is("2: second row", dots.cell(0, 1, 0), 9);
  }

  private static void picture() {
    SettledDots dots = Check.of("");
    is("4: an empty text, width", dots.about(0), 8);
    is("4: an empty text, height", dots.about(1), 8);
    dots = Check.of("size3 2;row12;dot 2 1;\nrow 345;dot0 1;");
    is("4: width", dots.about(0), 3);
    is("4: height", dots.about(1), 2);
    is("4: dots", dots.about(2), 2);
    is("4: behind the told ones 0", dots.cell(2, 0, 0), 0);
    is("4: second row", dots.cell(2, 1, 0), 5);
    is("4: first dot, X", dots.dot(0, 0), 2);
    is("4: first dot, Y", dots.dot(0, 1), 1);
    is("4: second dot, X", dots.dot(1, 0), 0);
    is("4: second dot, D", dots.dot(1, 2), 1);
    dots.seed(77);
    dots.put(0, 0);
    dots.undo();
    dots.image(0);
    Check.tape(dots, "dot 1 1;");
    is("4: a second picture", dots.picture(), 1);
    is("4: the seed is 0", dots.about(6), 0);
    is("4: no acts to undo", dots.about(7), 0);
    is("4: no acts to redo", dots.about(8), 0);
    is("4: boxes are empty", dots.back(0), NONE);
    is("4: no weights are left", dots.about(3), 0);
    is("4: size is 8 again", dots.about(0), 8);
  }

  private static void faultsOfSigns() {
    faultIs("", 0, NONE);
    faultIs(" \n ", 0, NONE);
    faultIs("Row 1;", 1, 0);
    faultIs("\trow 1;", 1, 0);
    faultIs("row 1" + (char) 233, 1, 5);
    faultIs("row 1;" + (char) 0, 1, 6);
    faultIs("row 1,2;", 1, 5);
    faultIs("row1;dot0 0;row\n2;", 0, NONE);
    // The reading that this project has of the lengths: a longer run is no token, at its start.
    faultIs("abcdefgh", 2, 0);
    faultIs("abcdefghi", 1, 0);
    faultIs("size 20 1;row " + Check.digits(20, '1') + ";", 0, NONE);
    faultIs("size 20 1;row " + Check.digits(21, '1') + ";", 1, 14);
    faultIs("size " + Check.digits(20, '0') + ";", 4, 5);
    faultIs("size " + Check.digits(21, '0') + ";", 1, 5);
  }

  /** A number with a letter directly behind it is no token, at the number's first digit. */
  private static void faultsOfLettersBehindDigits() {
    faultIs("row 1a;", 1, 4);
    faultIs("row 123a;", 1, 4);
    faultIs("row1a;", 1, 3);
    faultIs("dot 1 2dot 3 4;", 1, 6);
    faultIs("size 8x8;", 1, 5);
    faultIs("size 8 8row 1;", 1, 7);
    faultIs("5a", 1, 0);
    // At one place the least fault counts: over a number that can't be or can't stand there.
    faultIs("dot 99a 0;", 1, 4);
    faultIs("row 123456789a;", 1, 4);
    faultIs("row 1 2a;", 1, 6);
    faultIs("size 2 1;row 1;7z", 1, 15);
    // The first place counts: what comes ahead of the digits is told.
    faultIs("dot 99 0x", 4, 4);
    faultIs("row 1;foo 1a;", 2, 6);
    faultIs("size 2 1;row 1;row 1a;", 3, 15);
    // A blank or another sign between them, or a capital, which no word has: another fault.
    faultIs("row 1 a;", 2, 6);
    faultIs("row 1\na;", 2, 6);
    faultIs("row 1;a", 2, 6);
    faultIs("row 1A;", 1, 5);
    faultIs("row a1;", 2, 4);
  }

  /** Bytes that end() cut off are behind no digit. */
  private static void faultsBehindTheEnd() {
    SettledDots dots = new SettledDots();
    Check.tape(dots, "row 1a");
    is("3: end(5)", dots.end(5), 5);
    is("4: 'row 1'", dots.picture(), NONE);
    is("5: fault(0) of 'row 1'", dots.fault(0), 2);
    is("5: fault(1) of 'row 1'", dots.fault(1), 5);
  }

  private static void faultsOfPlaces() {
    faultIs("size", 2, 4);
    faultIs("size ;", 2, 5);
    faultIs("size 8;", 2, 6);
    faultIs("size 8 8", 2, 8);
    faultIs("size 8 8 8;", 2, 9);
    faultIs("size 8 8; size 8 8;", 2, 10);
    faultIs("row 1;size 8 8;", 2, 6);
    faultIs("foo", 2, 0);
    faultIs("rows 1;", 2, 0);
    faultIs(";", 2, 0);
    faultIs("row 1;;", 2, 6);
    faultIs("5", 2, 0);
    faultIs("row;", 2, 3);
    faultIs("row", 2, 3);
    faultIs("row dot", 2, 4);
    faultIs("row 1 2;", 2, 6);
    faultIs("row 1", 2, 5);
    faultIs("row 1 \n", 2, 7);
    faultIs("dot 0 0", 2, 7);
    faultIs("dot 0;", 2, 5);
    faultIs("dot 0 0 0;", 2, 8);
    faultIs("dot 0 0 99999;", 2, 8);
  }

  private static void faultsOfNumbers() {
    faultIs("size 0 8;", 4, 5);
    faultIs("size 21 8;", 4, 5);
    faultIs("size 8 0;", 4, 7);
    faultIs("size 8 21;", 4, 7);
    faultIs("size 20 20;", 0, NONE);
    faultIs("size 1 1;", 0, NONE);
    faultIs("size 0008 8;", 0, NONE);
    faultIs("size 00008 8;", 4, 5);
    faultIs("row 12345678;", 0, NONE);
    faultIs("row 123456789;", 4, 4);
    faultIs("size 3 3;row 1234;", 4, 13);
    faultIs("dot 7 7;", 0, NONE);
    faultIs("dot 8 0;", 4, 4);
    faultIs("dot 0 8;", 4, 6);
    faultIs("size 9 2;dot 8 1;", 0, NONE);
    faultIs("size 9 2;dot 8 2;", 4, 15);
    faultIs("dot 00000 0;", 4, 4);
    faultIs("dot 0000 0;", 0, NONE);
  }

  private static void faultsOfTooMany() {
    faultIs("row 1;".repeat(8), 0, NONE);
    faultIs("row 1;".repeat(8) + "row;", 3, 48);
    faultIs("size 2 1;row 1;row 1;", 3, 15);
    faultIs("dot 0 0;".repeat(40), 0, NONE);
    faultIs("dot 0 0;".repeat(40) + "dot", 3, 320);
    faultIs("dot 0 0;".repeat(40) + "rox", 2, 320);
  }

  private static void faultStays() {
    SettledDots dots = Check.of(PAIR);
    dots.seed(9);
    dots.image(1);
    dots.rounds(1);
    Check.tape(dots, "row x");
    is("4: a fault", dots.picture(), NONE);
    is("4: dots stay", dots.about(2), 2);
    is("4: the seed stays", dots.about(6), 9);
    is("4: acts stay", dots.about(7), 1);
    is("4: steps stay", dots.steps(NONE, 0), 1);
    is("4: boxes stay", dots.against(1, 2), 2);
    is("5: fault(0)", dots.fault(0), 2);
    is("5: fault(1)", dots.fault(1), 4);
    is("5: fault(-1)", dots.fault(-1), NONE);
    is("4: an empty tape is a picture", dots.picture(), 0);
    is("5: fault(0) is 0 again", dots.fault(0), 0);
    is("5: fault(1) is NONE again", dots.fault(1), NONE);
  }

  private static void put() {
    SettledDots dots = Check.of("size 3 2;");
    is("6: put(2, 1)", dots.put(2, 1), 0);
    is("6: put there again", dots.put(2, 1), 1);
    is("6: put(3, 0)", dots.put(3, 0), NONE);
    is("6: put(0, 2)", dots.put(0, 2), NONE);
    is("6: put(-1, 0)", dots.put(-1, 0), NONE);
    is("6: put(0, -1)", dots.put(0, -1), NONE);
    is("6: acts", dots.about(7), 2);
    for (int i = 2; i < 40; i++) {
      is("6: put " + i, dots.put(0, 0), i);
    }
    is("6: the 41st", dots.put(0, 0), NONE);
    is("6: dots", dots.about(2), 40);
  }

  private static void take() {
    SettledDots dots = Check.of("dot 1 2;dot 3 4;dot 5 6;");
    is("7: take(3)", dots.take(3), NONE);
    is("7: take(-1)", dots.take(-1), NONE);
    is("7: no act", dots.about(7), 0);
    is("7: take(0)", dots.take(0), 2);
    is("7: dot 0 is the former 1", dots.dot(0, 0), 3);
    is("7: dot 1 is the former 2", dots.dot(1, 1), 6);
    is("7: an act", dots.about(7), 1);
    is("15: the owners are those of three again", dots.undo() ? dots.cell(1, 2, 1) : NONE, 0);
    is("16: and those of two", dots.redo() ? dots.cell(5, 6, 1) : NONE, 1);
    is("7: take(1)", dots.take(1), 1);
    is("7: take(0) again", dots.take(0), 0);
    is("7: take of none", dots.take(0), NONE);
  }

  private static void move() {
    SettledDots dots = Check.of(PAIR);
    is("8: where it lies", dots.move(0, 0, 0), false);
    is("8: no such cell", dots.move(0, 4, 0), false);
    is("8: no such row", dots.move(0, 0, 1), false);
    is("8: no such dot", dots.move(2, 0, 0), false);
    is("8: dot -1", dots.move(-1, 0, 0), false);
    is("8: no act", dots.about(7), 0);
    is("8: on another dot", dots.move(0, 3, 0), true);
    is("8: X", dots.dot(0, 0), 3);
    is("8: an act", dots.about(7), 1);
    dots.undo();
    dots.rounds(1);
    is("8: from 1 / 2 to 1", dots.move(0, 1, 0), true);
    is("8: X then", dots.dot(0, 0), 1);
    is("8: D then", dots.dot(0, 2), 1);
  }

  private static void draw() {
    SettledDots dots = Check.of("size 4 1;row 1234;");
    is("9: draw(0)", dots.draw(0), NONE);
    is("9: draw(-1)", dots.draw(-1), NONE);
    is("9: draw(5)", dots.draw(5), NONE);
    is("9: no draw was made", dots.about(6), 0);
    // 0, 21468 and 9988 are drawn: the rests by 10, 9 and 6 are 0, 3 and 4.
    is("9: draw(3)", dots.draw(3), 3);
    is("9: first", dots.dot(0, 0), 0);
    is("9: second", dots.dot(1, 0), 2);
    is("9: third", dots.dot(2, 0), 3);
    is("9: draw(2)", dots.draw(2), NONE);
    is("9: one act", dots.about(7), 1);
    is("9: draw(1)", dots.draw(1), 4);
    is("9: fourth", dots.dot(3, 0), 1);
    dots = Check.of("size 20 20;" + ("row " + Check.digits(20, '1') + ";").repeat(20));
    is("9: draw(41)", dots.draw(41), NONE);
    is("9: draw(40)", dots.draw(40), 40);
    is("9: draw when there are 40", dots.draw(1), NONE);
    dots = Check.of("size 2 1;row 22;dot 0 0;dot 1 0;");
    is("9: all cells have a dot", dots.draw(1), NONE);
    dots.take(0);
    dots.rounds(1);
    is("9: a dot between two cells lies at none", dots.draw(2), 3);
  }

  private static void seed() {
    SettledDots dots = new SettledDots();
    is("10: seed(7)", dots.seed(7), 0);
    is("10: seed(-1)", dots.seed(-1), NONE);
    is("10: seed(MAX)", dots.seed(Integer.MAX_VALUE), 7);
    is("10: seed(0)", dots.seed(0), Integer.MAX_VALUE);
    is("10: no act", dots.about(7), 0);
    dots.paint(0, 0, 1);
    dots.seed(Integer.MAX_VALUE);
    dots.draw(1);
    // (2^31 - 1) * 1103515245 + 12345 leaves 12345 - 1103515245 + 2^31 by 2^31.
    is("10: the seed behind a draw", dots.about(6), 1043980748);
  }

  private static void paint() {
    SettledDots dots = Check.of(PAIR);
    is("11: paint(0, 0, 9)", dots.paint(0, 0, 9), 1);
    is("11: the same again", dots.paint(0, 0, 9), NONE);
    is("11: weight 10", dots.paint(0, 0, 10), NONE);
    is("11: weight -1", dots.paint(0, 0, -1), NONE);
    is("11: no such cell", dots.paint(4, 0, 2), NONE);
    is("11: no such row", dots.paint(0, 1, 2), NONE);
    is("11: paint(3, 0, 0)", dots.paint(3, 0, 0), 1);
    is("11: all weights", dots.about(3), 11);
    is("11: acts", dots.about(7), 2);
    is("11: weight", dots.cell(0, 0, 0), 9);
  }

  private static void rounds() {
    SettledDots dots = new SettledDots();
    is("12: without dots", dots.rounds(1), NONE);
    dots = Check.of(PAIR);
    is("12: rounds(0)", dots.rounds(0), NONE);
    is("12: rounds(101)", dots.rounds(101), NONE);
    is("12: no act", dots.about(7), 0);
    is("12: rounds(100)", dots.rounds(100), 2);
    is("12: one act", dots.about(7), 1);
    is("12: dot 1, X", dots.dot(1, 0), 5);
    is("12: dot 1, D", dots.dot(1, 2), 2);
    is("12: a round that moves none counts", dots.rounds(7), 1);
    is("12: and is an act", dots.about(7), 2);
    dots = Check.of("size 3 3;row 111;row 111;row 112;dot 0 0;");
    is("12: rounds(1)", dots.rounds(1), 1);
    is("12: X", dots.dot(0, 0), 11);
    is("12: Y", dots.dot(0, 1), 11);
    is("12: D", dots.dot(0, 2), 10);
    dots = Check.of("size 2 2;row 13;dot 0 1;");
    dots.rounds(1);
    is("12: divided by what divides all, X", dots.dot(0, 0), 3);
    is("12: Y is 0", dots.dot(0, 1), 0);
    is("12: D", dots.dot(0, 2), 4);
  }

  private static void roundsOfEmptyDots() {
    SettledDots dots = Check.of("size 5 1;row 90901;dot 2 0;dot 2 0;dot 2 0;dot 2 0;");
    // Dot 0 goes to 22 / 19 (0, 2 and 4 weigh 9, 9 and 1): cell 0 is worst, then 4, then 2.
    is("12: a round", dots.rounds(1), 1);
    is("12: dot 0, X", dots.dot(0, 0), 22);
    is("12: dot 0, D", dots.dot(0, 2), 19);
    is("12: dot 1, X", dots.dot(1, 0), 0);
    is("12: dot 2, X", dots.dot(2, 0), 4);
    is("12: dot 3, X", dots.dot(3, 0), 2);
    is("12: moved", dots.steps(0, 0), 3);
    dots = Check.of("dot 1 1;dot 5 5;");
    is("12: without weights none moves", dots.rounds(9), 1);
    is("12: all are empty", dots.about(5), 2);
    dots = Check.of("size 3 1;row 9;dot 0 0;dot 2 0;");
    is("12: an empty dot stays where nothing is left", dots.moves(), 0);
  }

  private static void adapt() {
    SettledDots dots = Check.of("size 6 1;row 111119;dot 0 0;dot 1 0;dot 5 0;");
    // Loads: 1; 3 (cells 1, 2 and 3, a tie); 10 (cells 4 and 5).
    is("13: low -1", dots.adapt(-1, 5), NONE);
    is("13: high 10000", dots.adapt(0, 10000), NONE);
    is("13: high below low", dots.adapt(3, 2), NONE);
    is("13: high 10000, though some would be taken", dots.adapt(2, 10000), NONE);
    is("13: low 10000, though all would be taken", dots.adapt(10000, 10000), NONE);
    is("13: nothing to do", dots.adapt(0, 9999), NONE);
    is("13: nothing to do at the bounds", dots.adapt(1, 10), NONE);
    is("13: no act", dots.about(7), 0);
    is("13: adapt(2, 3)", dots.adapt(2, 3), 3);
    is("13: dot 0 is the former 1", dots.dot(0, 0), 1);
    is("13: dot 1 is the former 2", dots.dot(1, 0), 5);
    is("13: the new one", dots.dot(2, 0), 4);
    is("13: an act", dots.about(7), 1);
    dots.undo();
    is("13: adapt(0, 2)", dots.adapt(0, 2), 5);
    is("13: for dot 1 first", dots.dot(3, 0), 3);
    is("13: then for dot 2", dots.dot(4, 0), 4);
    dots.undo();
    is("13: all are taken", dots.adapt(9999, 9999), 0);
    is("13: without dots", dots.adapt(9999, 9999), NONE);
    dots = Check.of("size 1 1;row 9;dot 0 0;");
    is("13: nothing above 0", dots.adapt(0, 0), NONE);
    dots = Check.of("size 20 2;row " + Check.digits(20, '1') + ";row " + Check.digits(20, '1')
        + ";" + "dot 0 0;".repeat(38) + "dot 9 0;dot 19 0;");
    is("13: 40 are 40", dots.adapt(0, 1), NONE);
    dots.take(5);
    is("13: one more fits", dots.adapt(0, 1), 40);
    is("13: it is the first heavy one's", dots.dot(39, 0), 4);
    is("13: its row", dots.dot(39, 1), 1);
    dots = Check.of("size 6 1;row 111119;dot 0 0;dot 1 0;dot 5 0;" + "dot 5 0;".repeat(37));
    is("13: 38 without a load go first", dots.adapt(1, 2), 5);
  }

  private static void turn() {
    SettledDots dots = Check.of("size 3 2;row 123;row 456;dot 2 0;dot 0 1;");
    is("14: turn()", dots.turn(), 2);
    is("14: height", dots.about(1), 3);
    int[] weights = {4, 1, 5, 2, 6, 3};
    for (int i = 0; i < 6; i++) {
      is("14: cell " + i, dots.cell(i % 2, i / 2, 0), weights[i]);
    }
    is("14: dot 0, X", dots.dot(0, 0), 1);
    is("14: dot 0, Y", dots.dot(0, 1), 2);
    is("14: dot 1, X", dots.dot(1, 0), 0);
    is("14: dot 1, Y", dots.dot(1, 1), 0);
    is("14: an act", dots.about(7), 1);
    is("14: undo", dots.undo(), true);
    is("14: width again", dots.about(0), 3);
    dots = Check.of(PAIR);
    dots.rounds(1);
    dots.turn();
    is("14: dot 0 at 0, 1 / 2", dots.dot(0, 1), 1);
    dots.turn();
    is("14: dot 0 at 5 / 2, X", dots.dot(0, 0), 5);
    is("14: dot 0 at 5 / 2, Y", dots.dot(0, 1), 0);
    is("14: dot 0 at 5 / 2, D", dots.dot(0, 2), 2);
  }

  private static void undoAndRedo() {
    SettledDots dots = Check.of(PAIR);
    is("15: nothing to undo", dots.undo(), false);
    is("16: nothing to redo", dots.redo(), false);
    dots.put(1, 0);
    dots.paint(0, 0, 7);
    dots.take(0);
    is("15: undo the take", dots.undo(), true);
    is("15: dots", dots.about(2), 3);
    is("15: undo the paint", dots.undo(), true);
    is("15: weight", dots.cell(0, 0, 0), 1);
    is("44: acts to undo", dots.about(7), 1);
    is("44: acts to redo", dots.about(8), 2);
    is("16: redo the paint", dots.redo(), true);
    is("16: weight", dots.cell(0, 0, 0), 7);
    is("16: dots", dots.about(2), 3);
    is("6: a call that does nothing", dots.put(9, 9), NONE);
    is("16: still one to redo", dots.about(8), 1);
    is("16: redo the take", dots.redo(), true);
    is("16: dots then", dots.about(2), 2);
    is("16: no more", dots.redo(), false);
    dots.undo();
    dots.move(0, 1, 0);
    is("16: none behind another act", dots.redo(), false);
    is("44: acts to undo then", dots.about(7), 3);
  }

  private static void undoKeepsTwelve() {
    SettledDots dots = new SettledDots();
    for (int i = 0; i < 15; i++) {
      dots.put(0, 0);
    }
    is("15: twelve are kept", dots.about(7), 12);
    for (int i = 0; i < 12; i++) {
      is("15: undo " + i, dots.undo(), true);
    }
    is("15: no thirteenth", dots.undo(), false);
    is("15: dots", dots.about(2), 3);
    for (int i = 0; i < 12; i++) {
      is("16: redo " + i, dots.redo(), true);
    }
    is("16: no thirteenth", dots.redo(), false);
    is("16: dots", dots.about(2), 15);
  }

  private static void undoTakesBackTheSeed() {
    SettledDots dots = Check.of("row 99;");
    dots.seed(3);
    dots.draw(1);
    int behind = dots.about(6);
    is("15: undo", dots.undo(), true);
    is("15: the seed ahead of it", dots.about(6), 3);
    is("16: redo", dots.redo(), true);
    is("16: the seed behind it", dots.about(6), behind);
    dots.seed(8);
    dots.undo();
    is("15: the seed ahead of the act, though it was set since", dots.about(6), 3);
  }

  private static void dot() {
    SettledDots dots = Check.of(PAIR);
    dots.rounds(1);
    int[] answers = {1, 0, 2, 2, 2, 500, 0, 1};
    for (int what = 0; what < answers.length; what++) {
      is("17: dot(0, " + what + ")", dots.dot(0, what), answers[what]);
    }
    is("17: dot(0, 8)", dots.dot(0, 8), NONE);
    is("17: dot(0, -1)", dots.dot(0, -1), NONE);
    is("17: dot(2, 0)", dots.dot(2, 0), NONE);
    is("17: dot(-1, 0)", dots.dot(-1, 0), NONE);
    dots = Check.of("size 2 2;row 11;row 11;dot 1 1;");
    dots.rounds(1);
    is("17: between four cells the least number", dots.dot(0, 6), 0);
    dots = Check.of("size 2 2;row 12;row 12;dot 0 0;");
    dots.rounds(1);
    is("17: nearer to the right ones", dots.dot(0, 6), 1);
    dots = Check.of("size 3 1;row 102;dot 0 0;");
    dots.rounds(1);
    is("17: each cost is cut, 1778 and 888", dots.dot(0, 5), 1777 + 888);
  }

  private static void piecesOfADot() {
    // Dots 1 and 2 part dot 0's row: its own cells lie at both ends.
    SettledDots dots = Check.of("size 3 3;dot 1 1;dot 0 0;dot 2 0;dot 0 2;dot 2 2;");
    is("17: a cross is one piece", dots.dot(0, 7), 1);
    is("17: five cells", dots.dot(0, 3), 5);
    dots = Check.of("size 3 1;dot 0 0;dot 0 0;");
    is("17: no cells, no piece", dots.dot(1, 7), 0);
    // Thin slices between dots of one line: their cells touch by corners alone.
    dots = Check.of("size 20 20;dot 0 0;dot 2 1;dot 4 2;");
    is("17: cells of the middle one", dots.dot(1, 3), countOwned(dots, 1, 20));
    is("17: pieces, counted by another way", dots.dot(1, 7), countPieces(dots, 1, 20));
  }

  private static int countOwned(SettledDots dots, int dot, int side) {
    int found = 0;
    for (int i = 0; i < side * side; i++) {
      found += dots.cell(i % side, i / side, 1) == dot ? 1 : 0;
    }
    return found;
  }

  /** By labels that spread until none changes. */
  private static int countPieces(SettledDots dots, int dot, int side) {
    int[] label = new int[side * side];
    for (int i = 0; i < label.length; i++) {
      label[i] = dots.cell(i % side, i / side, 1) == dot ? i : -1;
    }
    for (boolean changed = true; changed; ) {
      changed = false;
      for (int i = 0; i < label.length; i++) {
        for (int j = 0; j < label.length; j++) {
          int apart = Math.abs(i % side - j % side) + Math.abs(i / side - j / side);
          if (label[i] >= 0 && label[j] >= 0 && apart == 1 && label[i] > label[j]) {
            label[i] = label[j];
            changed = true;
          }
        }
      }
    }
    int pieces = 0;
    for (int i = 0; i < label.length; i++) {
      pieces += label[i] == i ? 1 : 0;
    }
    return pieces;
  }

  private static void cell() {
    SettledDots dots = Check.of("size 5 1;row 12345;dot 0 0;dot 4 0;dot 4 0;");
    is("18: weight", dots.cell(2, 0, 0), 3);
    is("18: a tie goes to the least number", dots.cell(2, 0, 1), 0);
    is("18: cost", dots.cell(2, 0, 2), 12000);
    is("18: spots", dots.cell(4, 0, 3), 2);
    is("18: no spots", dots.cell(3, 0, 3), 0);
    is("18: what 4", dots.cell(0, 0, 4), NONE);
    is("18: what -1", dots.cell(0, 0, -1), NONE);
    is("18: no such cell", dots.cell(5, 0, 0), NONE);
    is("18: no such row", dots.cell(0, 1, 0), NONE);
    is("18: x -1", dots.cell(-1, 0, 0), NONE);
    is("18: y -1", dots.cell(0, -1, 0), NONE);
  }

  private static void nearAndFar() {
    SettledDots dots = Check.of("size 5 1;row 10002;dot 4 0;dot 1 0;dot 3 0;dot 0 0;");
    int[] order = {1, 2, 0, 3};
    for (int k = 0; k < 4; k++) {
      is("19: near(2, 0, " + k + ")", dots.near(2, 0, k), order[k]);
    }
    is("19: near(2, 0, 4)", dots.near(2, 0, 4), NONE);
    is("19: near(2, 0, -1)", dots.near(2, 0, -1), NONE);
    is("19: near(5, 0, 0)", dots.near(5, 0, 0), NONE);
    is("19: near(0, 1, 0)", dots.near(0, 1, 0), NONE);
    is("20: far(0, 0, 0, 0)", dots.far(0, 0, 0, 0), 16);
    is("20: far(0, 0, 0, 1)", dots.far(0, 0, 0, 1), 0);
    dots = Check.of("size 5 1;row 10002;dot 0 0;");
    dots.rounds(1);
    // The dot lies at 8 / 3; from 0 that is 64 / 9, 7 and 111 thousandths.
    is("20: whole", dots.far(0, 0, 0, 0), 7);
    is("20: thousandths", dots.far(0, 0, 0, 1), 111);
    is("20: what 2", dots.far(0, 0, 0, 2), NONE);
    is("20: what -1", dots.far(0, 0, 0, -1), NONE);
    is("20: no such dot", dots.far(0, 0, 1, 0), NONE);
    is("20: no such cell", dots.far(0, 1, 0, 0), NONE);
  }

  private static void around() {
    SettledDots dots = Check.of("size 20 20;dot 0 0;dot 3 4;dot 19 19;");
    is("21: r 0", dots.around(0, 0, 0), 1);
    is("21: r 4", dots.around(0, 0, 4), 1);
    is("21: r 5, just at it", dots.around(0, 0, 5), 2);
    is("21: r 26", dots.around(0, 0, 26), 2);
    is("21: r 30", dots.around(0, 0, 30), 3);
    is("21: r 31", dots.around(0, 0, 31), NONE);
    is("21: r -1", dots.around(0, 0, -1), NONE);
    is("21: no such cell", dots.around(20, 0, 1), NONE);
    is("21: without dots", new SettledDots().around(0, 0, 1), 0);
  }

  private static void ring() {
    SettledDots dots = Check.of("size 5 2;row 10002;dot 0 0;");
    dots.rounds(1);
    // At 8 / 3, 0: the cell 2, 0.
    is("22: ring(0, 1)", dots.ring(0, 1), 2);
    is("22: ring(2, 1)", dots.ring(2, 1), 1);
    is("22: ring(4, 0)", dots.ring(4, 0), 2);
    is("22: ring(2, 0)", dots.ring(2, 0), 0);
    is("22: further down than right", Check.of("dot 1 1;").ring(2, 7), 6);
    is("22: further up than left", Check.of("dot 1 6;").ring(0, 1), 5);
    is("22: no such cell", dots.ring(5, 0), NONE);
    is("22: without dots", new SettledDots().ring(0, 0), NONE);
  }

  private static void closest() {
    SettledDots dots = Check.of("size 9 1;dot 8 0;dot 3 0;dot 5 0;dot 1 0;");
    is("23: how far", dots.closest(0), 4000);
    is("23: the lesser", dots.closest(1), 1);
    is("23: the greater", dots.closest(2), 2);
    is("23: what 3", dots.closest(3), NONE);
    is("23: what -1", dots.closest(-1), NONE);
    is("23: one dot", Check.of("dot 0 0;").closest(0), NONE);
    dots = Check.of("size 5 1;row 10002;dot 0 0;");
    dots.rounds(1);
    dots.put(2, 0);
    is("23: 4 / 9, cut", dots.closest(0), 444);
  }

  private static void loads() {
    SettledDots dots = Check.of("size 6 1;row 300330;dot 0 0;dot 3 0;dot 5 0;dot 5 0;");
    // Loads 3, 3, 3, 0: cell 4 is as near to dots 1 and 2, so dot 1's.
    is("24: greatest", dots.loads(0), 6);
    is("24: least", dots.loads(1), 0);
    is("24: first with the greatest", dots.loads(2), 1);
    is("24: first with the greatest cost", dots.loads(3), 1);
    is("24: what 4", dots.loads(4), NONE);
    is("24: what -1", dots.loads(-1), NONE);
    is("24: without dots", new SettledDots().loads(0), NONE);
    is("24: all alike, the first", Check.of("dot 1 1;dot 2 2;").loads(3), 0);
  }

  private static void ties() {
    SettledDots dots = Check.of("size 3 3;dot 0 0;dot 2 2;dot 2 0;dot 1 2;");
    is("25: three of four", dots.ties(1, 1), 1);
    is("25: two", dots.ties(1, 0), 2);
    dots.take(3);
    is("25: three", dots.ties(1, 1), 3);
    is("25: no such cell", dots.ties(3, 0), NONE);
    is("25: without dots", new SettledDots().ties(0, 0), NONE);
  }

  private static void shareDue() {
    SettledDots dots = Check.of("size 4 1;row 1234;dot 0 0;dot 0 0;dot 0 0;");
    int[] answers = {NONE, 0, 1, 1, 1, 0, 0, 0, 0, 0, NONE};
    for (int s = 0; s < answers.length; s++) {
      is("26: due(" + s + ")", dots.due(s), answers[s]);
    }
    dots = Check.of("size 4 1;row 1113;dot 0 0;");
    is("26: of like ones the greater shade", dots.due(3), 1);
    is("26: not the lesser", dots.due(1), 0);
    dots = Check.of("dot 0 0;");
    is("26: without weights", dots.due(5), 0);
    is("26: shade 0 without weights", dots.due(0), NONE);
  }

  private static void best() {
    SettledDots dots = Check.of("size 5 1;row 90009;dot 0 0;dot 1 0;");
    is("27: where", dots.best(1, 0), 4);
    is("27: cost", dots.best(1, 1), 0);
    is("27: dot 0", dots.best(0, 0), 4);
    is("27: dot 0, cost", dots.best(0, 1), 9000);
    is("27: what 2", dots.best(0, 2), NONE);
    is("27: what -1", dots.best(0, -1), NONE);
    is("27: no such dot", dots.best(2, 0), NONE);
    dots = Check.of("size 4 1;row 1001;dot 3 0;");
    is("27: an only dot, of like ones the least", dots.best(0, 0), 1);
    is("27: an only dot, cost", dots.best(0, 1), 5000);
    is("27: nothing is painted", dots.about(4), 9000);
    is("27: without weights the first cell", Check.of("dot 3 3;").best(0, 0), 0);
  }

  private static void edge() {
    SettledDots dots = Check.of("size 3 3;dot 1 1;dot 0 0;dot 0 0;");
    // Dot 1 owns 0, 0 alone: 1, 0 and 0, 1 are dot 0's by the tie.
    is("28: farthest of dot 0", dots.edge(0, 0), 2);
    is("28: couples", dots.edge(0, 1), 2);
    is("28: at an edge", dots.edge(0, 2), 7);
    is("28: dot 1's own", dots.edge(1, 0), 0);
    is("28: dot 1's couples", dots.edge(1, 1), 2);
    is("28: dot 2 owns none", dots.edge(2, 0), NONE);
    is("28: dot 2's couples", dots.edge(2, 1), 0);
    is("28: dot 2's edge", dots.edge(2, 2), 0);
    is("28: what 3", dots.edge(0, 3), NONE);
    is("28: what -1", dots.edge(0, -1), NONE);
    is("28: no such dot", dots.edge(3, 0), NONE);
    is("28: a cell at two edges counts once", Check.of("size 1 1;dot 0 0;").edge(0, 2), 1);
  }

  private static void touchAndWay() {
    SettledDots dots = Check.of("size 6 2;dot 0 0;dot 2 0;dot 5 0;dot 5 0;");
    is("29: touch(0, 1)", dots.touch(0, 1), 2);
    is("29: touch(1, 0)", dots.touch(1, 0), 2);
    is("29: touch(0, 2)", dots.touch(0, 2), 0);
    is("29: touch(1, 1)", dots.touch(1, 1), NONE);
    is("29: touch(0, 4)", dots.touch(0, 4), NONE);
    is("29: touch(-1, 0)", dots.touch(-1, 0), NONE);
    is("30: way(0, 0)", dots.way(0, 0), 0);
    is("30: way(0, 1)", dots.way(0, 1), 1);
    is("30: way(0, 2)", dots.way(0, 2), 2);
    is("30: way(2, 0)", dots.way(2, 0), 2);
    is("30: no way", dots.way(0, 3), NONE);
    is("30: itself, though it owns none", dots.way(3, 3), 0);
    is("30: no such dot", dots.way(0, 4), NONE);
    is("30: none such, one such", dots.way(4, 0), NONE);
    is("30: dot -1", dots.way(-1, -1), NONE);
  }

  private static void shade() {
    SettledDots dots = Check.of("size 6 1;row 202022;dot 0 0;dot 5 0;dot 3 0;");
    is("31: cells", dots.shade(2, 0), 4);
    is("31: spots", dots.shade(2, 1), 2);
    is("31: owners", dots.shade(2, 2), 3);
    is("31: cost", dots.shade(2, 3), 4000);
    is("31: cells of 0", dots.shade(0, 0), 2);
    is("31: owners of 0", dots.shade(0, 2), 2);
    is("31: cost of 0", dots.shade(0, 3), 0);
    is("31: none of 9", dots.shade(9, 0), 0);
    is("31: s 10", dots.shade(10, 0), NONE);
    is("31: s -1", dots.shade(-1, 0), NONE);
    is("31: what 4", dots.shade(2, 4), NONE);
    is("31: what -1", dots.shade(2, -1), NONE);
  }

  private static void stepAndMoves() {
    SettledDots dots = Check.of("size 4 1;row 1020;dot 0 0;");
    is("32: step(0), 16 / 9", dots.step(0), 1777);
    is("32: step(1)", dots.step(1), NONE);
    is("32: step(-1)", dots.step(-1), NONE);
    is("33: moves()", dots.moves(), 1);
    is("33: nothing is done", dots.dot(0, 2), 1);
    dots.rounds(1);
    is("32: still", dots.step(0), 0);
    is("33: still", dots.moves(), 0);
    dots.paint(3, 0, 3);
    is("33: painted", dots.moves(), 1);
    is("33: without dots", new SettledDots().moves(), NONE);
  }

  private static void till() {
    SettledDots dots = Check.of(PAIR);
    is("34: rounds", dots.till(0), 2);
    is("34: cost then", dots.till(1), 1000);
    is("34: what 2", dots.till(2), NONE);
    is("34: what -1", dots.till(-1), NONE);
    is("34: nothing is done", dots.about(4), 2000);
    is("34: as rounds() does", dots.rounds(100), 2);
    is("34: still", dots.till(0), 1);
    is("34: without dots", new SettledDots().till(0), NONE);
    is("34: without weights", Check.of("dot 0 0;").till(1), 0);
    // A slope on which eleven dots have a long way to go.
    StringBuilder slope = new StringBuilder("size 20 17;");
    for (int y = 0; y < 17; y++) {
      slope.append("row ");
      for (int x = 0; x < 20; x++) {
        slope.append(1 + (x * x + y * 3) % 7);
      }
      slope.append(";");
    }
    slope.append("dot 0 0;dot 0 1;dot 0 1;dot 2 0;dot 1 1;dot 2 1;dot 0 1;dot 2 0;dot 2 2;dot 2 2;");
    dots = Check.of(slope.toString());
    int rounds = dots.till(0);
    int cost = dots.till(1);
    is("34: a long way, as rounds() goes it", dots.rounds(100), rounds);
    is("34: the cost then", dots.about(4), cost);
    is("34: more than ten", rounds > 10, true);
  }

  private static void steps() {
    SettledDots dots = Check.of(PAIR);
    is("35: none yet", dots.steps(NONE, 99), 0);
    dots.rounds(1);
    is("35: one", dots.steps(NONE, -7), 1);
    dots.rounds(1);
    is("35: two, over two calls", dots.steps(NONE, 0), 2);
    is("35: the latest moved none", dots.steps(0, 0), 0);
    is("35: the one ahead of it two", dots.steps(1, 0), 2);
    is("35: cost ahead of it", dots.steps(1, 1), 2000);
    is("35: k 2", dots.steps(2, 0), NONE);
    is("35: k -2", dots.steps(-2, 0), NONE);
    is("35: what 2", dots.steps(0, 2), NONE);
    is("35: what -1", dots.steps(0, -1), NONE);
    for (int i = 0; i < 30; i++) {
      dots.rounds(1);
    }
    is("35: twenty at most", dots.steps(NONE, 0), 20);
    is("35: the oldest went", dots.steps(19, 0), 0);
    dots.seed(4);
    dots.image(0);
    dots.put(9, 9);
    is("35: they stay behind what is no act", dots.steps(NONE, 0), 20);
    dots.put(0, 0);
    is("35: none behind another act", dots.steps(NONE, 0), 0);
    dots.rounds(1);
    dots.undo();
    is("35: none behind undo", dots.steps(NONE, 0), 0);
    dots.rounds(1);
    dots.back(0);
    is("35: none behind back()", dots.steps(NONE, 0), 0);
    dots.rounds(1);
    dots.picture();
    is("35: none behind picture()", dots.steps(NONE, 0), 0);
  }

  private static void lossAndIdle() {
    SettledDots dots = Check.of("size 5 1;row 12345;dot 0 0;dot 2 0;dot 4 0;");
    // Without 1: cells 1, 2 and 3 cost 2, 12 and 4 thousands, not 2, 0 and 4.
    is("36: loss(0)", dots.loss(0), 4000);
    is("36: loss(1)", dots.loss(1), 12000);
    is("36: loss(2)", dots.loss(2), 20000);
    is("37: idle()", dots.idle(), 0);
    dots.move(1, 4, 0);
    is("37: idle(), not the first", dots.idle(), 1);
    dots.take(1);
    // Both: 0 + 2 + 12 + 4 + 0 thousands; the right one alone: 16 + 18 + 12 + 4 + 0.
    is("36: the left one of two", dots.loss(0), 32000);
    is("36: the right one of two", dots.loss(1), 112000);
    dots.undo();
    is("36: loss(3)", dots.loss(3), NONE);
    is("36: loss(-1)", dots.loss(-1), NONE);
    is("36: nothing is taken", dots.about(2), 3);
    dots = Check.of("dot 0 0;");
    is("36: the only one", dots.loss(0), NONE);
    is("37: the only one", dots.idle(), NONE);
    is("37: without dots", new SettledDots().idle(), NONE);
    is("37: of like ones the first", Check.of("row 1;dot 0 0;dot 0 0;").idle(), 0);
  }

  private static void more() {
    SettledDots dots = Check.of("size 5 1;row 12345;dot 0 0;");
    // At 3: 2 + 3 + 0 + 5 thousands; at 4: 2 + 12 + 4 + 0.
    is("38: where", dots.more(0), 3);
    is("38: cost", dots.more(1), 10000);
    is("38: what 2", dots.more(2), NONE);
    is("38: what -1", dots.more(-1), NONE);
    is("38: nothing is put", dots.about(2), 1);
    is("38: without dots", new SettledDots().more(0), NONE);
    is("38: of like ones the least", Check.of("size 3 1;row 101;dot 1 0;").more(0), 0);
    is("38: with 40 dots", Check.of("size 2 1;row 11;" + "dot 0 0;".repeat(40)).more(0), 1);
  }

  private static void tone() {
    SettledDots dots = Check.of("size 3 2;row 123;row 456;dot 1 0;dot 2 1;");
    is("39: all", dots.tone(0, 0, 2, 1, 0), 21);
    is("39: right part", dots.tone(1, 0, 2, 1, 0), 16);
    is("39: one cell", dots.tone(2, 1, 2, 1, 0), 6);
    is("39: spots", dots.tone(1, 0, 2, 0, 1), 1);
    is("39: all spots", dots.tone(0, 0, 2, 1, 1), 2);
    is("39: right below x", dots.tone(2, 0, 1, 1, 0), NONE);
    is("39: down below y", dots.tone(0, 1, 1, 0, 0), NONE);
    is("39: right outside", dots.tone(0, 0, 3, 1, 0), NONE);
    is("39: down outside", dots.tone(0, 0, 2, 2, 0), NONE);
    is("39: x -1", dots.tone(-1, 0, 2, 1, 0), NONE);
    is("39: y -1", dots.tone(0, -1, 2, 1, 0), NONE);
    is("39: what 2", dots.tone(0, 0, 2, 1, 2), NONE);
    is("39: what -1", dots.tone(0, 0, 2, 1, -1), NONE);
  }

  private static void uneven() {
    SettledDots dots = Check.of("size 3 2;row 109;row 000;dot 0 0;dot 0 1;");
    // Twos of cells a side: at the left 2 dots * 10 less 1 * 2 is 18, at the right 0 less 18.
    is("40: where, of like ones the least", dots.uneven(2, 0), 0);
    is("40: by how much", dots.uneven(2, 1), 18);
    is("40: single cells, where", dots.uneven(1, 0), 2);
    is("40: single cells, too few dots", dots.uneven(1, 1), -18);
    is("40: n 3", dots.uneven(3, 0), Integer.MIN_VALUE);
    is("40: n 0", dots.uneven(0, 0), Integer.MIN_VALUE);
    is("40: n 21", dots.uneven(21, 0), Integer.MIN_VALUE);
    is("40: what 2", dots.uneven(1, 2), Integer.MIN_VALUE);
    is("40: what -1", dots.uneven(1, -1), Integer.MIN_VALUE);
    is("40: nothing uneven", new SettledDots().uneven(8, 0), 0);
    is("40: nothing uneven, by 0", new SettledDots().uneven(8, 1), 0);
    is("40: all of 20", Check.of("size 20 20;row 1;").uneven(20, 1), 0);
  }

  private static void boxes() {
    SettledDots dots = Check.of(PAIR);
    is("41: nothing was kept", dots.against(0, 0), NONE);
    is("43: nothing was kept", dots.back(0), NONE);
    dots.seed(5);
    is("42: image(0)", dots.image(0), 2);
    is("42: image(2)", dots.image(2), NONE);
    is("42: image(-1)", dots.image(-1), NONE);
    is("42: no act", dots.about(7), 0);
    dots.move(1, 1, 0);
    dots.paint(2, 0, 5);
    dots.put(3, 0);
    dots.seed(6);
    is("41: other owners", dots.against(0, 0), 2);
    is("41: other weights", dots.against(0, 1), 1);
    is("41: other dots, of both", dots.against(0, 2), 1);
    is("41: what 3", dots.against(0, 3), NONE);
    is("41: what -1", dots.against(0, -1), NONE);
    is("41: box 1 is empty", dots.against(1, 0), NONE);
    is("41: box 2", dots.against(2, 0), NONE);
    is("41: box -1", dots.against(-1, 0), NONE);
    is("43: back(1)", dots.back(1), NONE);
    is("43: back(2)", dots.back(2), NONE);
    is("43: back(-1)", dots.back(-1), NONE);
    is("42: image(1)", dots.image(1), 3);
    is("43: back(0)", dots.back(0), 2);
    is("43: the seed", dots.about(6), 5);
    is("43: weights", dots.about(3), 4);
    is("43: no acts", dots.about(7), 0);
    is("43: as it was", dots.against(0, 0) + dots.against(0, 1) + dots.against(0, 2), 0);
    dots.turn();
    is("41: sizes are unlike", dots.against(0, 1), NONE);
    is("43: another size comes back", dots.back(1), 3);
    is("43: width", dots.about(0), 4);
    dots.take(0);
    dots.take(0);
    dots.take(0);
    is("41: no owners against some", dots.against(1, 0), 4);
    is("41: no dots of both", dots.against(1, 2), 0);
  }

  private static void about() {
    SettledDots dots = Check.of("size 3 2;row 12;row 045;dot 0 0;dot 2 1;dot 2 1;");
    dots.seed(21);
    dots.put(0, 0);
    dots.take(3);
    dots.undo();
    dots.feed(1, 2, 3, 4, 5);
    int[] answers = {3, 2, 4, 12, 6000, 2, 21, 1, 1, 20};
    for (int what = 0; what < answers.length; what++) {
      is("44: about(" + what + ")", dots.about(what), answers[what]);
    }
    is("44: about(10)", dots.about(10), NONE);
    is("44: about(-1)", dots.about(-1), NONE);
  }
}
