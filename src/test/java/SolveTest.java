/** Promises 14 and 15: solve, solutionLength and solutionPush. */
public final class SolveTest {
  private static final int UP = BoxPushSolver.UP;
  private static final int RIGHT = BoxPushSolver.RIGHT;
  private static final int DOWN = BoxPushSolver.DOWN;
  private static final int LEFT = BoxPushSolver.LEFT;

  public static void main(String[] args) {
    notStarted();
    alreadySolved();
    sizeLimits();
    solutions();
    leastListOfCodes();
    withoutASolution();
    pushLimitIsTheLongest();
    solveChangesOnlyTheSolution();
    solveEmptiesTheSolution();
    solveForgetsEarlierSearches();
    solveGoesFromThePresentPosition();
    solutionPushOutside();
    startEmptiesTheSolution();
    Check.end();
  }

  private static int code(int row, int col, int dir) {
    return (row * 8 + col) * 4 + dir;
  }

  private static void dueSolution(BoxPushSolver x, int... codes) {
    Check.due("solve", x.solve(), codes.length);
    dueStored(x, codes);
  }

  private static void dueStored(BoxPushSolver x, int... codes) {
    Check.due("solutionLength", x.solutionLength(), codes.length);
    for (int i = 0; i < codes.length; i++) {
      Check.due("solutionPush(" + i + ")", x.solutionPush(i), codes[i]);
    }
    Check.due("solutionPush after the last", x.solutionPush(codes.length), -1);
    Check.due("solutionPush before the first", x.solutionPush(-1), -1);
  }

  private static void replay(BoxPushSolver x) {
    int before = x.pushCount();
    int length = x.solutionLength();
    for (int i = 0; i < length; i++) {
      int code = x.solutionPush(i);
      Check.due("code is in 0..255", code >= 0 && code <= 255, true);
      Check.due("push " + i, x.push(code / 32, (code / 4) % 8, code % 4), BoxPushSolver.PUSHED);
    }
    Check.due("solved in the end", x.solved(), true);
    Check.due("pushes made", x.pushCount() - before, length);
  }

  private static void notStarted() {
    BoxPushSolver x = new BoxPushSolver(10, 10);
    String before = Check.reading(x);
    Check.due("solve not started", x.solve(), BoxPushSolver.ERR_NOT_STARTED);
    Check.draw(x, "@$@");
    Check.due("refused start", x.start(), BoxPushSolver.ERR_PUSHER);
    Check.due("solve not started", x.solve(), BoxPushSolver.ERR_NOT_STARTED);
    Check.draw(x, "");
    Check.same("solve not started", Check.reading(x), before);
    for (int bad : Check.EXTREMES) {
      Check.due("solutionPush(" + bad + ") not started", x.solutionPush(bad), -1);
    }
  }

  private static void alreadySolved() {
    dueSolution(Check.started(10, 10, "@*"));
    String[] open = {"        ", " *      ", "        ", "    *   ", "        ", "   @    ", "      * ", "        "};
    BoxPushSolver big = Check.started(10, 10, open);
    dueSolution(big);
    Check.due("push off the goal", big.push(3, 4, UP), 2);
    Check.due("now it is too big", big.solve(), BoxPushSolver.ERR_TOO_BIG);
    Check.due("solutionLength", big.solutionLength(), 0);
    BoxPushSolver x = Check.started(10, 10, " @$ . ");
    dueSolution(x, code(0, 2, RIGHT), code(0, 3, RIGHT));
    replay(x);
    dueStored(x, code(0, 2, RIGHT), code(0, 3, RIGHT));
    dueSolution(x);
  }

  private static void sizeLimits() {
    // A closed row of n open cells with a goal in its middle has n - 2 live cells.
    dueSolution(Check.started(10, 10, "@$ .    ", "########", " *  "), code(0, 1, RIGHT), code(0, 2, RIGHT));
    Check.due("two boxes, nine cells", Check.started(10, 10, "@$ .    ", "########", " *   ").solve(), -6);
    Check.due("two boxes, eight cells, none", Check.started(10, 10, "$@ .    ", "########", " *  ").solve(), -7);
    Check.due("two boxes, nine cells, none", Check.started(10, 10, "$@ .    ", "########", " *   ").solve(), -6);
    dueSolution(Check.started(10, 10, "@$. ", "########", " *  ", "########", " *  "), code(0, 1, RIGHT));
    Check.due("three boxes, seven cells",
        Check.started(10, 10, "@$. ", "########", " *  ", "########", " *   ").solve(), -6);
    Check.due("three boxes, eight cells",
        Check.started(10, 10, "@$. ", "########", " *   ", "########", " *   ").solve(), -6);
    String[] widest = {".       ", "        ", "        ", "        ", "        ", "     $  ", "      @ ", "        "};
    BoxPushSolver one = Check.started(40, 10, widest);
    int live = 0;
    for (int cell = 0; cell < 64; cell++) {
      live += one.live(cell / 8, cell % 8) ? 1 : 0;
    }
    Check.due("live cells of the widest level", live, 49);
    Check.due("one box on the widest level", one.solve(), 10);
    replay(one);
    BoxPushSolver refused = Check.started(10, 10, "@$ .    ", "########", " *   ");
    refused.move(RIGHT);
    String before = Check.reading(refused);
    Check.due("too big", refused.solve(), -6);
    Check.same("too big changes nothing", Check.reading(refused), before);
    Check.due("too big leaves the history", Check.undoAll(refused), 1);
  }

  private static void solutions() {
    dueSolution(Check.started(10, 10, "@$."), code(0, 1, RIGHT));
    dueSolution(Check.started(10, 10, ".$@"), code(0, 1, LEFT));
    dueSolution(Check.started(10, 10, "@", "$", "."), code(1, 0, DOWN));
    dueSolution(Check.started(10, 10, "########", "########", "########", "########", "########", "#######.", "#######$",
        "#######@"), code(6, 7, UP));
    dueSolution(Check.started(10, 10, "+$ ", "   "), code(0, 1, LEFT));
    // A box that stands on a goal must go on to the next one.
    dueSolution(Check.started(10, 10, "@*. ", " $##", "  ##"), code(0, 1, RIGHT), code(1, 1, UP));
    BoxPushSolver forty = Check.started(40, 64, Check.FORTY_PUSHES);
    Check.due("forty pushes", forty.solve(), 40);
    replay(forty);
    Check.due("forty undos", Check.undoAll(forty), 40);
    // The same boxes with the pusher shut in on the other side.
    dueSolution(Check.started(10, 10, "@ $ . "), code(0, 2, RIGHT), code(0, 3, RIGHT));
    Check.due("shut in", Check.started(10, 10, "  $ .@").solve(), -7);
    dueSolution(Check.started(10, 10, " .$ @ "), code(0, 2, LEFT));
  }

  private static void leastListOfCodes() {
    String[] square = {"     ", " $   ", "  .  ", "     ", "    @"};
    dueSolution(Check.started(10, 10, square), code(1, 1, RIGHT), code(1, 2, DOWN));
    String[] upwards = {"     ", "  .  ", " $   ", "     ", "    @"};
    dueSolution(Check.started(10, 10, upwards), code(2, 1, UP), code(1, 1, RIGHT));
    // Rising directions of one box: both ways take four pushes, with turns at any place.
    String[] far = {"      ", "      ", "   $  ", "      ", " .    ", "@     "};
    dueSolution(Check.started(10, 10, far), code(2, 3, DOWN), code(3, 3, DOWN), code(4, 3, LEFT), code(4, 2, LEFT));
    // The box with the lowest cell goes first, wherever the pusher stands.
    BoxPushSolver two = Check.started(10, 10, "@$. ", " ###", " ###", " $. ");
    dueSolution(two, code(0, 1, RIGHT), code(3, 1, RIGHT));
    BoxPushSolver below = Check.started(10, 10, " $. ", " ###", " ###", "@$. ");
    dueSolution(below, code(0, 1, RIGHT), code(3, 1, RIGHT));
    BoxPushSolver three = Check.started(10, 10, " $. ", " ###", " $. ", " ###", "@$. ");
    dueSolution(three, code(0, 1, RIGHT), code(2, 1, RIGHT), code(4, 1, RIGHT));
  }

  private static void withoutASolution() {
    Check.due("box in a corner", Check.started(40, 10, "$   ", "  . ", " @  ").solve(), -7);
    Check.due("box on an edge", Check.started(40, 10, "  $   ", "      ", "  .   ", " @    ").solve(), -7);
    Check.due("goal behind walls", Check.started(40, 10, "@ $ #.#").solve(), -7);
    Check.due("pusher shut in", Check.started(40, 10, "@# $ . ", "###    ").solve(), -7);
    Check.due("pusher between walls and box", Check.started(40, 10, "#####", "#@$.#", "#####").solve(), 1);
    Check.due("dead box with two boxes", Check.started(40, 10, "$# @$. ", "##.####").solve(), -7);
    Check.due("dead box with three boxes", Check.started(40, 10, "$ #@$. ", "#######", "*#.").solve(), -7);
  }

  private static void pushLimitIsTheLongest() {
    for (int limit = 1; limit <= 8; limit++) {
      String[] row = {"@$     ."};
      Check.due("six pushes, limit " + limit, Check.started(limit, 10, row).solve(), limit >= 6 ? 6 : -7);
    }
    for (int limit = 30; limit <= 40; limit++) {
      int want = limit >= 40 ? 40 : -7;
      Check.due("forty pushes, limit " + limit, Check.started(limit, 10, Check.FORTY_PUSHES).solve(), want);
    }
  }

  private static void solveChangesOnlyTheSolution() {
    String[] level = {"      ", " @$ . ", "      "};
    BoxPushSolver x = Check.started(10, 10, level);
    BoxPushSolver twin = Check.started(10, 10, level);
    int[] steps = {UP, RIGHT, DOWN, UP, LEFT, LEFT, DOWN};
    for (int dir : steps) {
      Check.due("move", x.move(dir), twin.move(dir));
      x.solve();
      Check.same("position after solve", Check.position(x), Check.position(twin));
      for (int cell = 0; cell < 64; cell++) {
        int row = cell / 8;
        int col = cell % 8;
        Check.due("live after solve", x.live(row, col), twin.live(row, col));
        Check.due("reachable after solve", x.reachable(row, col), twin.reachable(row, col));
        Check.due("getCell after solve", x.getCell(row, col), twin.getCell(row, col));
      }
    }
    while (twin.undo()) {
      Check.due("undo after solve", x.undo(), true);
      Check.same("undo after solve", Check.position(x), Check.position(twin));
    }
    Check.due("no undo more", x.undo(), false);
  }

  private static void solveEmptiesTheSolution() {
    BoxPushSolver x = Check.started(10, 10, "      ", "  $ . ", "   @  ");
    dueSolution(x, code(1, 2, RIGHT), code(1, 3, RIGHT));
    Check.due("push to the edge", x.push(1, 2, UP), 2);
    dueStored(x, code(1, 2, RIGHT), code(1, 3, RIGHT));
    Check.due("solve of a dead position", x.solve(), -7);
    dueStored(x);
    Check.due("undo", x.undo(), true);
    dueSolution(x, code(1, 2, RIGHT), code(1, 3, RIGHT));
    dueSolution(x, code(1, 2, RIGHT), code(1, 3, RIGHT));
  }

  private static void solveForgetsEarlierSearches() {
    String[] shutIn = {"  $ .@"};
    String[] near = {"@$."};
    BoxPushSolver x = new BoxPushSolver(40, 10);
    for (int round = 0; round < 3; round++) {
      Check.draw(x, Check.FORTY_PUSHES);
      Check.due("start", x.start(), 0);
      Check.due("forty pushes", x.solve(), 40);
      Check.draw(x, shutIn);
      Check.due("start", x.start(), 0);
      Check.due("shut in, after a long search", x.solve(), -7);
      dueStored(x);
      Check.draw(x, near);
      Check.due("start", x.start(), 0);
      dueSolution(x, code(0, 1, RIGHT));
      dueSolution(x, code(0, 1, RIGHT));
    }
    // The same row with the pusher on the wrong side: what the first search met must not be met again.
    String[] wrongSide = {" $    @."};
    String[] row = {"@$     ."};
    BoxPushSolver y = new BoxPushSolver(6, 10);
    Check.draw(y, row);
    Check.due("start", y.start(), 0);
    for (int i = 0; i < 5; i++) {
      Check.due("six pushes", y.solve(), 6);
    }
    Check.due("push", y.move(RIGHT), 2);
    Check.due("five pushes", y.solve(), 5);
    Check.due("undo", y.undo(), true);
    Check.due("six pushes", y.solve(), 6);
    Check.draw(y, wrongSide);
    Check.due("start", y.start(), 0);
    Check.due("pusher on the wrong side", y.solve(), -7);
  }

  private static void solveGoesFromThePresentPosition() {
    BoxPushSolver x = Check.started(10, 10, "       ", " @$  . ", "       ");
    dueSolution(x, code(1, 2, RIGHT), code(1, 3, RIGHT), code(1, 4, RIGHT));
    x.move(RIGHT);
    dueSolution(x, code(1, 3, RIGHT), code(1, 4, RIGHT));
    x.push(1, 3, RIGHT);
    dueSolution(x, code(1, 4, RIGHT));
    x.undo();
    x.undo();
    dueSolution(x, code(1, 2, RIGHT), code(1, 3, RIGHT), code(1, 4, RIGHT));
    replay(x);
  }

  private static void solutionPushOutside() {
    BoxPushSolver x = Check.started(40, 10, "@$     .");
    for (int i = -100; i < 100; i++) {
      Check.due("solutionPush(" + i + ") before solve", x.solutionPush(i), -1);
    }
    Check.due("solve", x.solve(), 6);
    for (int i = -100; i < 100; i++) {
      int want = i >= 0 && i < 6 ? code(0, 1 + i, RIGHT) : -1;
      Check.due("solutionPush(" + i + ")", x.solutionPush(i), want);
    }
    Check.due("solutionPush(least int)", x.solutionPush(Integer.MIN_VALUE), -1);
    Check.due("solutionPush(greatest int)", x.solutionPush(Integer.MAX_VALUE), -1);
    BoxPushSolver forty = Check.started(40, 10, Check.FORTY_PUSHES);
    Check.due("solve", forty.solve(), 40);
    Check.due("solutionPush(39)", forty.solutionPush(39) >= 0, true);
    Check.due("solutionPush(40)", forty.solutionPush(40), -1);
  }

  private static void startEmptiesTheSolution() {
    BoxPushSolver x = Check.started(10, 10, "@$.");
    Check.due("solve", x.solve(), 1);
    x.setCell(5, 5, '@');
    Check.due("refused start", x.start(), -8);
    dueStored(x, code(0, 1, RIGHT));
    x.setCell(5, 5, '#');
    Check.due("start", x.start(), 0);
    dueStored(x);
  }
}
