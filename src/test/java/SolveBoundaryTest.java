/** Promises 14 and 15 at their boundaries: one method for each sentence that names one, with the sentence's words. */
public final class SolveBoundaryTest {
  private static final int UP = BoxPushSolver.UP;
  private static final int RIGHT = BoxPushSolver.RIGHT;
  private static final int DOWN = BoxPushSolver.DOWN;
  private static final int LEFT = BoxPushSolver.LEFT;
  private static final int TOO_BIG = BoxPushSolver.ERR_TOO_BIG;
  private static final int NONE = BoxPushSolver.ERR_NONE;

  /** Levels within the size limits, small enough that every list of a few pushes can be tried. */
  private static final String[][] SMALL = {
      {"@$."}, {"@$ ."}, {"@$  ."}, {"+$ ", "   "}, {"     ", " $ . ", "@    "}, {"     ", " $   ", "  .  ", "    @"},
      {"    ", " $  ", "  .@", "    "}, {"      ", "   $  ", "      ", "  .   ", "@     "}, {" .$ @ "}, {"  $ .@"},
      {"$   ", "  . ", " @  "}, {"@*. ", " $##", "  ##"}, {"@$. ", " ###", " ###", " $. "}, {" $. ", " ###", "@$. "},
      {" $. ", " ###", " $. ", " ###", "@$. "}, {" $. ", " ###", " *  ", " ###", "@$. "}, {"@$*. ", " ####"},
      {" @$*.  ", " ######"}, {" $.$. ", "@ ####"}, {"## ##", "@$.$ ", "##.##"}, {" $. ", "@###", " $. ", " ###", " *  "},
      {"#####", "#@$.#", "#####"}, {"$# @$. ", "##.####"}, {"    ", " *  ", "@#  "}, {"    ", " .  ", " $@ ", "    "}};

  public static void main(String[] args) {
    solveNotStarted();
    solvedPositionEmptiesTheSolution();
    solvedPositionOfAnySize();
    sizeOfOneBox();
    sizeOfTwoBoxes();
    sizeOfThreeBoxes();
    tooBigChangesNothing();
    solveLooksInOrder();
    noSequenceExists();
    longerThanTheLimit();
    answerLiesInRange();
    leastList();
    solveLeavesTheRest();
    solutionLengthIsTheAnswer();
    codesInRange();
    storedPushesSolve();
    noShorterWay();
    noWayWithinTheLimit();
    solutionLengthNotStarted();
    solutionPushOutside();
    solutionPushOfAnEmptySolution();
    codesTellCellAndDirection();
    onlyStartAndSolveChangeTheSolution();
    solutionStaysWhenItNoLongerFits();
    Check.end();
  }

  private static int code(int row, int col, int dir) {
    return (row * 8 + col) * 4 + dir;
  }

  private static void dueStored(String what, BoxPushSolver x, int... codes) {
    Check.due(what + ", solutionLength", x.solutionLength(), codes.length);
    for (int i = -1; i <= 41; i++) {
      int want = i >= 0 && i < codes.length ? codes[i] : -1;
      Check.due(what + ", solutionPush(" + i + ")", x.solutionPush(i), want);
    }
  }

  /** Tries every list of exactly this many pushes, by rising codes, and answers the first that solves, or null. */
  private static int[] firstSolving(BoxPushSolver x, int length) {
    if (x.solved() || length == 0) {
      return x.solved() && length == 0 ? new int[0] : null;
    }
    for (int code = 0; code < 256; code++) {
      if (x.push(code / 32, code / 4 % 8, code % 4) == BoxPushSolver.PUSHED) {
        int[] rest = firstSolving(x, length - 1);
        x.undo();
        if (rest != null) {
          int[] codes = new int[length];
          codes[0] = code;
          System.arraycopy(rest, 0, codes, 1, length - 1);
          return codes;
        }
      }
    }
    return null;
  }

  private static int[] leastSolving(BoxPushSolver x, int most) {
    for (int length = 0; length <= most; length++) {
      int[] codes = firstSolving(x, length);
      if (codes != null) {
        return codes;
      }
    }
    return null;
  }

  private static BoxPushSolver drawn(String... rows) {
    BoxPushSolver x = new BoxPushSolver(10, 10);
    Check.draw(x, rows);
    return x;
  }

  private static BoxPushSolver startRefused() {
    BoxPushSolver x = drawn("@$.@");
    Check.due("refused start", x.start(), BoxPushSolver.ERR_PUSHER);
    return x;
  }

  private static void solveNotStarted() {
    Check.sentence("14: If NOT STARTED, it answers ERR_NOT_STARTED (refused)");
    int want = BoxPushSolver.ERR_NOT_STARTED;
    Check.refused("fresh", () -> new BoxPushSolver(10, 10), x -> x.solve(), want);
    Check.refused("drawn", () -> drawn("@$."), x -> x.solve(), want);
    Check.refused("drawn and solved", () -> drawn("@*"), x -> x.solve(), want);
    Check.refused("start was refused", SolveBoundaryTest::startRefused, x -> x.solve(), want);
  }

  private static void solvedPositionEmptiesTheSolution() {
    Check.sentence("14: If every box is on a goal, the stored solution becomes empty and the answer is 0");
    BoxPushSolver x = Check.started(10, 10, "@$ . ");
    Check.due("solve", x.solve(), 2);
    Check.due("push", x.move(RIGHT), 2);
    Check.due("push", x.move(RIGHT), 2);
    dueStored("before", x, code(0, 1, RIGHT), code(0, 2, RIGHT));
    Check.due("solve of the solved position", x.solve(), 0);
    dueStored("after", x);
    Check.due("solve again", x.solve(), 0);
    Check.due("over the goal", x.move(RIGHT), 2);
    Check.due("solve behind the goal", x.solve(), NONE);
    Check.due("undo", x.undo(), true);
    Check.due("solve on the goal", x.solve(), 0);
  }

  private static void solvedPositionOfAnySize() {
    Check.sentence("14: This applies whatever the size of the level");
    String[][] levels = {{" *      ", "########", "  *  @"}, {"*       ", "    @   ", "       *", "        ", "        "},
        {" *  *  *", "########", " @"}, {"*       ", " *     @", "       *", "        ", "        "}, {"@*", "  "}};
    for (String[] level : levels) {
      for (int limit = 1; limit <= 40; limit += 39) {
        BoxPushSolver x = Check.started(limit, 10, level);
        Check.due("solve of " + String.join("/", level), x.solve(), 0);
        dueStored("solved", x);
      }
    }
    String[] open = {"        ", " *  *   ", "        ", "   @ *  ", "        "};
    BoxPushSolver three = Check.started(10, 10, open);
    Check.due("three boxes in the open", three.solve(), 0);
    Check.due("push", three.push(1, 1, RIGHT), 2);
    Check.due("one off its goal", three.solve(), TOO_BIG);
    Check.due("undo", three.undo(), true);
    Check.due("back again", three.solve(), 0);
  }

  /** One goal is on two edges at most, and on each of the others no cell is live: 49 is the most for one box. */
  private static void sizeOfOneBox() {
    Check.sentence("14: B = 1 and L <= 60");
    int most = 0;
    for (int goal = 0; goal < 64; goal++) {
      BoxPushSolver x = new BoxPushSolver(40, 10);
      for (int cell = 0; cell < 64; cell++) {
        x.setCell(cell / 8, cell % 8, cell == goal ? '.' : ' ');
      }
      int box = goal == 27 ? 28 : 27;
      int pusher = goal == 36 ? 35 : 36;
      x.setCell(box / 8, box % 8, '$');
      x.setCell(pusher / 8, pusher % 8, '@');
      Check.due("start", x.start(), 0);
      most = Math.max(most, Check.liveCount(x));
      int distance = Math.abs(goal / 8 - box / 8) + Math.abs(goal % 8 - box % 8);
      Check.due("one box in the open, goal " + goal, x.solve(), distance);
    }
    Check.due("the most live cells", most, 49);
  }

  private static void dueSize(int live, int want, String... rows) {
    BoxPushSolver x = Check.started(40, 10, rows);
    Check.due("live cells of " + String.join("/", rows), Check.liveCount(x), live);
    Check.due("solve of " + String.join("/", rows), x.solve(), want);
  }

  private static void sizeOfTwoBoxes() {
    Check.sentence("14: B = 2 and L <= 8");
    dueSize(3, 1, "@$.", "###", "*");
    dueSize(7, 2, "@$ .    ", "########", " *");
    dueSize(8, 2, "@$ .    ", "########", " *  ");
    dueSize(9, TOO_BIG, "@$ .    ", "########", " *   ");
    dueSize(10, TOO_BIG, "@$ .    ", "########", " *    ");
    dueSize(8, NONE, "$@ .    ", "########", " *  ");
    dueSize(9, TOO_BIG, "$@ .    ", "########", " *   ");
    dueSize(6, 2, "    ", " $. ", "@ $.", "    ");
    dueSize(36, TOO_BIG, "        ", " $.     ", "@       ", "    $   ", "     .  ", "        ", "        ", "        ");
  }

  private static void sizeOfThreeBoxes() {
    Check.sentence("14: B = 3 and L <= 6");
    dueSize(4, 1, "@$.", "###", "*", "#", "*");
    dueSize(5, 1, "@$. ", "####", " *  ", "####", " *");
    dueSize(6, 1, "@$. ", "####", " *  ", "####", " *  ");
    dueSize(7, TOO_BIG, "@$. ", "####", " *   ", "#####", " *  ");
    dueSize(8, TOO_BIG, "@$. ", "####", " *   ", "#####", " *   ");
    dueSize(9, TOO_BIG, "@$. ", "####", " *    ", "#####", " *   ");
    dueSize(6, NONE, "$@. ", "####", " *  ", "####", " *  ");
    dueSize(7, TOO_BIG, "$@. ", "####", " *   ", "#####", " *  ");
    dueSize(36, TOO_BIG, "        ", " $.     ", "@     * ", "    $   ", "     .  ", "        ", "        ", "        ");
  }

  private static BoxPushSolver tooBig() {
    BoxPushSolver x = Check.started(40, 8, "        ", " * *  * ", "@       ", "        ");
    Check.due("solve", x.solve(), 0);
    for (int i = 0; i < 5; i++) {
      Check.due("push", x.push(1, 1, UP), 2);
      Check.due("push", x.push(1, 3, DOWN), 2);
      Check.due("undo", x.undo(), true);
      Check.due("undo", x.undo(), true);
    }
    for (int i = 0; i < 10; i++) {
      Check.due("walk", x.move(i % 2 == 0 ? RIGHT : LEFT), 1);
    }
    Check.due("push", x.push(1, 1, UP), 2);
    x.setCell(7, 7, '*');
    return x;
  }

  private static void tooBigChangesNothing() {
    Check.sentence("14: It is refused with ERR_TOO_BIG (changing nothing)");
    Check.refused("three boxes", SolveBoundaryTest::tooBig, x -> x.solve(), TOO_BIG);
    Check.refused("two boxes", () -> Check.started(10, 8, "@$ .    ", "########", " *   "), x -> x.solve(), TOO_BIG);
  }

  private static void solveLooksInOrder() {
    Check.sentence("14: It considers these conditions in this order");
    Check.due("not started before solved", drawn("@*").solve(), BoxPushSolver.ERR_NOT_STARTED);
    Check.due("not started before too big", drawn("@$$.  .  ").solve(), BoxPushSolver.ERR_NOT_STARTED);
    String[] open = {"        ", " @ *    ", "     *  ", "        "};
    Check.due("solved before too big", Check.started(10, 10, open).solve(), 0);
    String[] corner = {"$       ", "  . .   ", "  @ $   ", "        "};
    Check.due("too big before none", Check.started(10, 10, corner).solve(), TOO_BIG);
    String[] far = {"@$     .", "########", " *    "};
    Check.due("too big before too long", Check.started(1, 10, far).solve(), TOO_BIG);
  }

  private static void noSequenceExists() {
    Check.sentence("14: If no such sequence exists, the stored solution becomes empty and the answer is ERR_NONE");
    String[][] levels = {{"$   ", "  . ", " @  "}, {"  $   ", "      ", "  .   ", " @    "}, {"@ $ #.#"}, {"@# $ . ", "###    "},
        {"  $ .@"}, {"$# @$. ", "##.####"}, {"$ #@$. ", "#######", "*#."}, {"@$$..", "#####"}};
    for (String[] level : levels) {
      BoxPushSolver x = Check.started(40, 10, level);
      Check.due("solve of " + String.join("/", level), x.solve(), NONE);
      dueStored("none", x);
      Check.due("solve again", x.solve(), NONE);
    }
    BoxPushSolver x = Check.started(10, 10, "      ", "  $ . ", "   @  ");
    Check.due("solve", x.solve(), 2);
    Check.due("push to the edge", x.push(1, 2, UP), 2);
    Check.due("solve of the dead position", x.solve(), NONE);
    dueStored("dead position", x);
    Check.due("undo", x.undo(), true);
    dueStored("undo brings no solution back", x);
  }

  private static void longerThanTheLimit() {
    Check.sentence("14: If D > P, the stored solution becomes empty and the answer is ERR_NONE");
    for (int limit = 1; limit <= 5; limit++) {
      BoxPushSolver x = Check.started(limit, 64, "@$     .", "        ", "        ");
      for (int i = 1; i <= 6; i++) {
        int left = 7 - i;
        Check.due(left + " pushes, limit " + limit, x.solve(), left > limit ? NONE : left);
        Check.due("solutionLength", x.solutionLength(), left > limit ? 0 : left);
        Check.due("push", x.push(0, i, RIGHT), 2);
      }
      for (int i = 6; i >= 1; i--) {
        Check.due("undo", x.undo(), true);
        int left = 7 - i;
        Check.due(left + " pushes again, limit " + limit, x.solve(), left > limit ? NONE : left);
        Check.due("solutionLength", x.solutionLength(), left > limit ? 0 : left);
        Check.due("solutionPush(0)", x.solutionPush(0), left > limit ? -1 : code(0, i, RIGHT));
      }
    }
    Check.due("forty, limit 39", Check.started(39, 8, Check.FORTY_PUSHES).solve(), NONE);
  }

  private static void answerLiesInRange() {
    Check.sentence("14: The answer is D, which lies in 1..P");
    Check.due("one push, limit 1", Check.started(1, 8, "@$.").solve(), 1);
    Check.due("one push, limit 40", Check.started(40, 8, "@$.").solve(), 1);
    Check.due("two pushes, limit 2", Check.started(2, 8, "@$ .").solve(), 2);
    Check.due("forty pushes, limit 40", Check.started(40, 8, Check.FORTY_PUSHES).solve(), 40);
  }

  private static void leastList() {
    Check.sentence("14: the one whose list of push codes is lexicographically least");
    for (String[] level : SMALL) {
      BoxPushSolver x = Check.started(5, 64, level);
      int[] want = leastSolving(x, 5);
      String name = String.join("/", level);
      Check.due("solve of " + name, x.solve(), want == null ? NONE : want.length);
      dueStored(name, x, want == null ? new int[0] : want);
    }
    // Three ways: two of them begin with the least code, and the second codes decide between these.
    BoxPushSolver second = Check.started(10, 10, "      ", " $    ", "   .  ", "      ", "     @");
    Check.due("solve", second.solve(), 3);
    dueStored("second code", second, code(1, 1, RIGHT), code(1, 2, RIGHT), code(1, 3, DOWN));
    // The wall takes the least second code away, and the third codes decide.
    BoxPushSolver third = Check.started(10, 10, "       ", " $ #   ", "       ", "   #   ", "    .  ", "      @");
    Check.due("solve", third.solve(), 6);
    dueStored("third code", third, code(1, 1, RIGHT), code(1, 2, DOWN), code(2, 2, RIGHT), code(2, 3, RIGHT),
        code(2, 4, DOWN), code(3, 4, DOWN));
  }

  /** A game in which solve() is called before each step, beside a twin that never gets this call. */
  private static void solveLeavesTheRest() {
    Check.sentence("14: The position, both counters and the history are never changed by solve()");
    String[] level = {"        ", "@$   .  ", "        "};
    BoxPushSolver x = Check.started(40, 8, level);
    BoxPushSolver twin = Check.started(40, 8, level);
    int[] steps = {RIGHT, LEFT, UP, RIGHT, RIGHT, RIGHT, DOWN, LEFT, UP, LEFT, LEFT, DOWN, RIGHT, RIGHT, RIGHT, RIGHT};
    x.setCell(0, 0, '*');
    twin.setCell(0, 0, '*');
    int solvedTimes = 0;
    for (int dir : steps) {
      solvedTimes += x.solve() >= 0 ? 1 : 0;
      Check.same("solve before " + dir, restOf(x), restOf(twin));
      Check.due("move", x.move(dir), twin.move(dir));
      Check.same("after " + dir, restOf(x), restOf(twin));
    }
    Check.due("times it was solved", solvedTimes, steps.length);
    Check.due("solved in the end", x.solved(), true);
    for (int i = 0; i <= 8; i++) {
      x.solve();
      Check.due("undo " + i, x.undo(), i < 8);
      twin.undo();
      Check.same("undo " + i, restOf(x), restOf(twin));
    }
    Check.due("push to a dead position", x.push(1, 1, UP), BoxPushSolver.PUSHED);
    Check.due("push of the twin", twin.push(1, 1, UP), BoxPushSolver.PUSHED);
    Check.due("none", x.solve(), NONE);
    Check.same("after none", restOf(x), restOf(twin));
  }

  /** All that can be read but the stored solution. */
  private static String restOf(BoxPushSolver x) {
    StringBuilder text = new StringBuilder(Check.position(x));
    for (int cell = 0; cell < 64; cell++) {
      text.append((char) x.getCell(cell / 8, cell % 8)).append(x.live(cell / 8, cell % 8) ? 'l' : '-');
      text.append(x.reachable(cell / 8, cell % 8) ? 'r' : '-');
    }
    return text.toString();
  }

  private static void solutionLengthIsTheAnswer() {
    Check.sentence("14: solutionLength() is D");
    for (String[] level : SMALL) {
      BoxPushSolver x = Check.started(40, 10, level);
      int answer = x.solve();
      Check.due("solutionLength of " + String.join("/", level), x.solutionLength(), Math.max(0, answer));
    }
    BoxPushSolver x = Check.started(40, 64, Check.FORTY_PUSHES);
    Check.due("solve", x.solve(), 40);
    Check.due("solutionLength", x.solutionLength(), 40);
  }

  private static void codesInRange() {
    Check.sentence("14: Every stored code c satisfies 0 <= c <= 255");
    // A box can be pushed neither from the first cell nor from the last: 5 and 251 are the outermost codes.
    BoxPushSolver first = Check.started(10, 10, "@$.");
    Check.due("solve", first.solve(), 1);
    dueStored("the lowest code", first, 5);
    BoxPushSolver last = Check.started(10, 10, "", "", "", "", "", "", "", "#####.$@");
    Check.due("solve", last.solve(), 1);
    dueStored("the highest code", last, 251);
    BoxPushSolver up = Check.started(10, 10, "", "", "", "", "", "#######.", "#######$", "#######@");
    Check.due("solve", up.solve(), 1);
    dueStored("upwards in the last column", up, 220);
  }

  private static void storedPushesSolve() {
    Check.sentence("14: push(c/32, (c/4)%8, c%4) answers PUSHED every time, and pushCount() has risen by exactly D");
    for (int i = 0; i <= SMALL.length; i++) {
      BoxPushSolver x = Check.started(40, 8, i < SMALL.length ? SMALL[i] : Check.FORTY_PUSHES);
      Check.due("refused step", x.move(4), BoxPushSolver.ERR_ARG);
      int answer = x.solve();
      for (int k = 0; k < answer; k++) {
        int c = x.solutionPush(k);
        Check.due("solved too early", x.solved(), false);
        Check.due("push " + k + " of level " + i, x.push(c / 32, (c / 4) % 8, c % 4), BoxPushSolver.PUSHED);
      }
      Check.due("solved, level " + i, x.solved(), answer >= 0);
      Check.due("pushCount, level " + i, x.pushCount(), Math.max(0, answer));
    }
  }

  private static void noShorterWay() {
    Check.sentence("14: Every sequence that ends with solved() true raises the push counter by at least D");
    for (String[] level : SMALL) {
      BoxPushSolver x = Check.started(40, 64, level);
      int answer = x.solve();
      if (answer > 0 && answer <= 6) {
        Check.due("shorter way in " + String.join("/", level), leastSolving(x, answer - 1) == null, true);
        Check.due("way of that length", firstSolving(x, answer) != null, true);
      }
    }
  }

  private static void noWayWithinTheLimit() {
    Check.sentence("14: When solve() answers ERR_NONE, no sequence reaches solved() with at most P pushes");
    for (String[] level : SMALL) {
      for (int limit = 1; limit <= 4; limit++) {
        BoxPushSolver x = Check.started(limit, 64, level);
        boolean possible = leastSolving(x, limit) != null;
        Check.due("none in " + String.join("/", level) + ", limit " + limit, x.solve() == NONE, !possible);
      }
    }
  }

  private static void solutionLengthNotStarted() {
    Check.sentence("15: solutionLength() answers 0 when NOT STARTED");
    BoxPushSolver x = new BoxPushSolver(10, 10);
    Check.due("fresh", x.solutionLength(), 0);
    Check.draw(x, "@$.");
    Check.due("drawn", x.solutionLength(), 0);
    Check.due("solve", x.solve(), BoxPushSolver.ERR_NOT_STARTED);
    Check.due("after solve", x.solutionLength(), 0);
    Check.due("refused start", startRefused().solutionLength(), 0);
  }

  private static void solutionPushOutside() {
    Check.sentence("15: solutionPush answers -1 when i is outside 0..length-1");
    BoxPushSolver x = Check.started(40, 10, "@$  . ");
    Check.due("solve", x.solve(), 3);
    dueStored("three", x, code(0, 1, RIGHT), code(0, 2, RIGHT), code(0, 3, RIGHT));
    for (int i : Check.EXTREMES) {
      Check.due("solutionPush(" + i + ")", x.solutionPush(i), -1);
    }
    // A shorter solution after a longer one: the longer one's codes are gone.
    Check.due("pushing move", x.move(RIGHT), 2);
    Check.due("solve", x.solve(), 2);
    dueStored("two after three", x, code(0, 2, RIGHT), code(0, 3, RIGHT));
    BoxPushSolver forty = Check.started(40, 10, Check.FORTY_PUSHES);
    Check.due("solve", forty.solve(), 40);
    Check.due("the first of forty", forty.solutionPush(0) >= 0, true);
    Check.due("the last of forty", forty.solutionPush(39) >= 0, true);
    Check.due("behind the last of forty", forty.solutionPush(40), -1);
    for (int i : Check.EXTREMES) {
      boolean within = i >= 0 && i < 40;
      Check.due("solutionPush(" + i + ") of forty", forty.solutionPush(i) >= 0, within);
    }
  }

  private static void solutionPushOfAnEmptySolution() {
    Check.sentence("15: every i when the stored solution is empty or the object is NOT STARTED");
    BoxPushSolver emptied = Check.started(40, 10, Check.FORTY_PUSHES);
    Check.due("solve", emptied.solve(), 40);
    Check.due("start anew", emptied.start(), 0);
    BoxPushSolver solved = Check.started(40, 10, "@$.");
    Check.due("solve", solved.solve(), 1);
    Check.due("pushing move", solved.move(RIGHT), 2);
    Check.due("solve of the solved position", solved.solve(), 0);
    BoxPushSolver[] all = {new BoxPushSolver(10, 10), drawn("@$."), startRefused(), Check.started(10, 10, "@$."), emptied, solved};
    for (int which = 0; which < all.length; which++) {
      for (int i = -70; i < 70; i++) {
        Check.due("object " + which + ", solutionPush(" + i + ")", all[which].solutionPush(i), -1);
      }
      for (int i : Check.EXTREMES) {
        Check.due("object " + which + ", solutionPush(" + i + ")", all[which].solutionPush(i), -1);
      }
    }
  }

  private static void codesTellCellAndDirection() {
    Check.sentence("15: box cell c/4, direction c%4, row c/32, column (c/4)%8");
    int[] rowStep = {-1, 0, 1, 0};
    int[] colStep = {0, 1, 0, -1};
    for (int cell = 0; cell < 64; cell++) {
      for (int dir = 0; dir < 4; dir++) {
        int row = cell / 8;
        int col = cell % 8;
        int along = dir % 2 == 0 ? row : col;
        if (along == 0 || along == 7) {
          continue;
        }
        BoxPushSolver x = new BoxPushSolver(10, 10);
        x.setCell(row - rowStep[dir], col - colStep[dir], '@');
        x.setCell(row, col, '$');
        x.setCell(row + rowStep[dir], col + colStep[dir], '.');
        Check.due("start", x.start(), 0);
        Check.due("solve", x.solve(), 1);
        dueStored("box " + cell + " to " + dir, x, code(row, col, dir));
      }
    }
  }

  private static void onlyStartAndSolveChangeTheSolution() {
    Check.sentence("15: The stored solution changes only through a successful start() and through solve()");
    int[] codes = {code(0, 1, RIGHT), code(0, 2, RIGHT)};
    BoxPushSolver x = Check.started(10, 8, "@$ . ", "     ");
    Check.due("solve", x.solve(), 2);
    x.setCell(0, 1, '@');
    dueStored("after an edit", x, codes);
    Check.due("refused start", x.start(), BoxPushSolver.ERR_PUSHER);
    dueStored("after a refused start", x, codes);
    x.setCell(0, 1, ' ');
    Check.due("refused start", x.start(), BoxPushSolver.ERR_BOXES);
    dueStored("after a refused start", x, codes);
    x.setCell(0, 1, '*');
    Check.due("refused start", x.start(), BoxPushSolver.ERR_GOALS);
    dueStored("after a refused start", x, codes);
    x.setCell(0, 1, '$');
    Check.due("start", x.start(), 0);
    dueStored("after a start", x);
  }

  private static void solutionStaysWhenItNoLongerFits() {
    Check.sentence("15: Moves, pushes and undos leave it as it is, even when they make it no longer fit");
    int[] codes = {code(1, 1, RIGHT), code(1, 2, RIGHT)};
    BoxPushSolver x = Check.started(10, 8, "      ", "@$ .  ", "      ");
    Check.due("undo", x.undo(), false);
    Check.due("solve", x.solve(), 2);
    dueStored("after solve", x, codes);
    Check.due("walk", x.move(DOWN), 1);
    dueStored("after a walk", x, codes);
    Check.due("push", x.push(1, 1, UP), 2);
    dueStored("after a push to a dead cell", x, codes);
    Check.due("the first push no longer fits", x.push(1, 1, RIGHT), BoxPushSolver.ERR_NO_BOX);
    Check.due("blocked push", x.push(0, 1, UP), BoxPushSolver.ERR_BLOCKED);
    dueStored("after refused pushes", x, codes);
    Check.due("undo", x.undo(), true);
    dueStored("after an undo", x, codes);
    Check.due("push", x.push(1, 1, LEFT), 2);
    Check.due("undo", x.undo(), true);
    Check.due("undo", x.undo(), true);
    Check.due("undo", x.undo(), false);
    dueStored("after all undos", x, codes);
  }
}
