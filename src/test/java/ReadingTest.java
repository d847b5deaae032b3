/** Promises 7 to 13: pusher, boxAt, reachable, live, solved, moveCount and pushCount. */
public final class ReadingTest {
  private static final int UP = BoxPushSolver.UP;
  private static final int RIGHT = BoxPushSolver.RIGHT;
  private static final int DOWN = BoxPushSolver.DOWN;
  private static final int LEFT = BoxPushSolver.LEFT;

  public static void main(String[] args) {
    pusherEverywhere();
    boxAtTellsTheBoxes();
    outsideTheGrid();
    reachableStopsAtWallsAndBoxes();
    reachableDoesNotWrap();
    reachableFollowsALongWay();
    reachableChangesWithTheBoxes();
    liveCells();
    liveDoesNotWrap();
    liveLeavesBoxesAside();
    solvedNeedsEveryBox();
    counters();
    readingChangesNothing();
    Check.end();
  }

  /** Each row of the map has a letter where the answer is due to be true. */
  private static void dueMap(String what, BoxPushSolver x, boolean reach, String... map) {
    for (int cell = 0; cell < 64; cell++) {
      int row = cell / 8;
      int col = cell % 8;
      boolean want = row < map.length && col < map[row].length() && map[row].charAt(col) == 'x';
      boolean got = reach ? x.reachable(row, col) : x.live(row, col);
      Check.due(what + " " + row + ", " + col, got, want);
    }
  }

  private static void pusherEverywhere() {
    for (int cell = 0; cell < 64; cell++) {
      BoxPushSolver x = new BoxPushSolver(10, 10);
      Check.due("pusher not started", x.pusher(), -1);
      int box = (cell + 20) % 64;
      int goal = (cell + 40) % 64;
      x.setCell(cell / 8, cell % 8, '@');
      x.setCell(box / 8, box % 8, '$');
      x.setCell(goal / 8, goal % 8, '.');
      Check.due("start", x.start(), 0);
      Check.due("pusher", x.pusher(), cell);
      x.setCell(cell / 8, cell % 8, '+');
      x.setCell(goal / 8, goal % 8, ' ');
      Check.due("start", x.start(), 0);
      Check.due("pusher on a goal", x.pusher(), cell);
    }
  }

  private static void boxAtTellsTheBoxes() {
    for (int cell = 0; cell < 64; cell++) {
      BoxPushSolver x = new BoxPushSolver(10, 10);
      int other = (cell + 9) % 64;
      int pusher = (cell + 33) % 64;
      int goal = (cell + 50) % 64;
      x.setCell(cell / 8, cell % 8, '$');
      x.setCell(other / 8, other % 8, '*');
      x.setCell(pusher / 8, pusher % 8, '@');
      x.setCell(goal / 8, goal % 8, '.');
      Check.due("boxAt not started", x.boxAt(cell / 8, cell % 8), false);
      Check.due("start", x.start(), 0);
      for (int at = 0; at < 64; at++) {
        Check.due("boxAt " + at, x.boxAt(at / 8, at % 8), at == cell || at == other);
      }
    }
  }

  private static void outsideTheGrid() {
    String[] open = {"   $    ", "        ", "  .@    ", "$       ", ".      $", "        ", "        ", "   .    "};
    BoxPushSolver x = Check.started(10, 10, open);
    BoxPushSolver fresh = new BoxPushSolver(10, 10);
    for (int bad : Check.EXTREMES) {
      for (int good = 0; good < 8; good++) {
        outsideTheGrid(x, bad, good);
        outsideTheGrid(x, good, bad);
        outsideTheGrid(fresh, bad, good);
        outsideTheGrid(fresh, good, bad);
      }
      outsideTheGrid(x, bad, bad);
    }
    // Pairs whose row*8+col would be a cell of the grid.
    for (int cell = 0; cell < 64; cell++) {
      outsideTheGrid(x, -1, cell + 8);
      outsideTheGrid(x, 8, cell - 64);
      outsideTheGrid(x, 1 << 29, cell + 8);
    }
  }

  private static void outsideTheGrid(BoxPushSolver x, int row, int col) {
    Check.due("boxAt(" + row + ", " + col + ")", x.boxAt(row, col), false);
    Check.due("reachable(" + row + ", " + col + ")", x.reachable(row, col), false);
    Check.due("live(" + row + ", " + col + ")", x.live(row, col), false);
  }

  private static void reachableStopsAtWallsAndBoxes() {
    BoxPushSolver x = Check.started(10, 10, "@ # . ", "  #   ", " $ $  ", "##### ", "     *", ".     ");
    dueMap("reachable", x, true, "xx", "xx", "x");
    BoxPushSolver y = Check.started(10, 10, "@ #   ", "  # . ", " $    ", "##### ", "     *", "      ");
    dueMap("reachable from the start", y, true, "xx", "xx", "x");
    Check.due("push", y.push(2, 1, UP), -3);
    Check.due("push", y.push(2, 1, RIGHT), 2);
    dueMap("reachable after the push", y, true, "xx", "xx", "xx");
    BoxPushSolver alone = Check.started(10, 10, "@", "#$.");
    dueMap("the pusher's cell alone", alone, true, "x");
  }

  private static void reachableDoesNotWrap() {
    BoxPushSolver x = Check.started(10, 10, "       @", "########", "        ", "   $.   ");
    dueMap("right end of a row", x, true, "xxxxxxxx");
    BoxPushSolver y = Check.started(10, 10, "#######@", " #######", " #######", "   $.   ");
    dueMap("last column to the first", y, true, "       x");
    BoxPushSolver z = Check.started(10, 10, "  $.   #", "#######.", "@#######", "########", "########", "########",
        "########", "      $#");
    dueMap("first column to the last", z, true, "", "", "x");
    BoxPushSolver top = Check.started(10, 10, "###@####", "########", "########", "########", "########", "########",
        "  $.    ", "        ");
    dueMap("top to bottom", top, true, "   x");
    BoxPushSolver bottom = Check.started(10, 10, "        ", "  $.    ", "########", "########", "########", "########",
        "########", "###@####");
    dueMap("bottom to top", bottom, true, "", "", "", "", "", "", "", "   x");
  }

  private static void reachableFollowsALongWay() {
    String[] snake = {"@       ", "####### ", "        ", " #######", "        ", "####### ", "        ", " #####$."};
    BoxPushSolver x = Check.started(10, 10, snake);
    dueMap("long way", x, true, "xxxxxxxx", "       x", "xxxxxxxx", "x", "xxxxxxxx", "       x", "xxxxxxxx",
        "x      x");
    String[] spiral = {"@       ", "####### ", "      # ", " #### # ", " #.$# # ", " #  ## #", " ##### #", "        "};
    BoxPushSolver y = Check.started(10, 10, spiral);
    dueMap("spiral that is cut", y, true, "xxxxxxxx", "       x", "       x", "       x", "       x");
    spiral[5] = " #  ##  ";
    BoxPushSolver z = Check.started(10, 10, spiral);
    dueMap("spiral", z, true, "xxxxxxxx", "       x", "xxxxxx x", "x    x x", "x    x x", "x     xx", "x     x ",
        "xxxxxxxx");
  }

  private static void reachableChangesWithTheBoxes() {
    BoxPushSolver x = Check.started(10, 10, "####", "@$  ", "####", ".");
    Check.due("behind the box", x.reachable(1, 2), false);
    Check.due("box cell", x.reachable(1, 1), false);
    Check.due("pusher cell", x.reachable(1, 0), true);
    Check.due("move", x.move(RIGHT), 2);
    Check.due("former box cell", x.reachable(1, 1), true);
    Check.due("former pusher cell", x.reachable(1, 0), true);
    Check.due("new box cell", x.reachable(1, 2), false);
    Check.due("undo", x.undo(), true);
    Check.due("box cell again", x.reachable(1, 1), false);
  }

  private static void liveCells() {
    BoxPushSolver open = Check.started(10, 10, "        ", "        ", "   .    ", "        ", "    $   ", "        ",
        "     @  ", "        ");
    dueMap("goal inside", open, false, "", " xxxxxx", " xxxxxx", " xxxxxx", " xxxxxx", " xxxxxx", " xxxxxx");
    BoxPushSolver edge = Check.started(10, 10, "   .    ", "        ", "        ", "        ", "    $   ", "        ",
        "     @  ", "        ");
    dueMap("goal on the edge", edge, false, " xxxxxx", " xxxxxx", " xxxxxx", " xxxxxx", " xxxxxx", " xxxxxx", " xxxxxx");
    BoxPushSolver corner = Check.started(10, 10, "        ", "        ", "        ", "        ", "    $   ", "        ",
        "     @  ", "       .");
    dueMap("goal in the corner", corner, false, "", " xxxxxxx", " xxxxxxx", " xxxxxxx", " xxxxxxx", " xxxxxxx", " xxxxxxx",
        " xxxxxxx");
    BoxPushSolver line = Check.started(10, 10, "   .   ", "#######", "@$");
    dueMap("a line", line, false, " xxxxx");
    BoxPushSolver column = Check.started(10, 10, " #", " #", " #@$", ".#", " #", " #");
    dueMap("a column", column, false, "", "x", "x", "x", "x");
    BoxPushSolver held = Check.started(10, 10, "###", "#.#", "###", "@$");
    dueMap("a goal between walls", held, false, "", " x");
    BoxPushSolver onGoals = Check.started(10, 10, "+ ", "  ", "#####", "*$");
    dueMap("goals under the pusher and a box", onGoals, false, "x", "", "", "x");
  }

  private static void liveDoesNotWrap() {
    BoxPushSolver x = Check.started(10, 10, "#####   ", ".   ####", "@$");
    dueMap("first column", x, false, "", "xxx");
    BoxPushSolver y = Check.started(10, 10, "####   .", "   #####", "@$");
    dueMap("last column", y, false, "     xxx");
    BoxPushSolver z = Check.started(10, 10, "# ######", "# ######", "@$######", "########", "########", "########",
        "# ######", "#.######");
    dueMap("last row", z, false, "", "", "", "", "", "", "", " x");
  }

  private static void liveLeavesBoxesAside() {
    BoxPushSolver x = Check.started(10, 10, "        ", " @$.$   ", "   .    ");
    boolean[] before = new boolean[64];
    for (int cell = 0; cell < 64; cell++) {
      before[cell] = x.live(cell / 8, cell % 8);
    }
    Check.due("cell of a box is live", x.live(1, 2), true);
    Check.due("cell of the pusher is live", x.live(1, 1), true);
    int[] steps = {RIGHT, UP, RIGHT, DOWN, LEFT};
    for (int dir : steps) {
      x.move(dir);
      for (int cell = 0; cell < 64; cell++) {
        Check.due("live after a step", x.live(cell / 8, cell % 8), before[cell]);
      }
    }
    x.push(1, 4, LEFT);
    x.undo();
    for (int cell = 0; cell < 64; cell++) {
      Check.due("live after push and undo", x.live(cell / 8, cell % 8), before[cell]);
    }
  }

  private static void solvedNeedsEveryBox() {
    Check.due("solved not started", new BoxPushSolver(10, 10).solved(), false);
    Check.due("one box on its goal", Check.started(10, 10, "@*").solved(), true);
    Check.due("three boxes on goals", Check.started(10, 10, "@***").solved(), true);
    Check.due("two of three boxes", Check.started(10, 10, "@**$.").solved(), false);
    Check.due("pusher on the goal", Check.started(10, 10, "+$").solved(), false);
    BoxPushSolver x = Check.started(10, 10, "@$.", "   ", " $.");
    Check.due("no box", x.solved(), false);
    x.push(0, 1, RIGHT);
    Check.due("first box", x.solved(), false);
    x.push(2, 1, RIGHT);
    Check.due("both boxes", x.solved(), true);
    x.undo();
    Check.due("undone", x.solved(), false);
    BoxPushSolver y = Check.started(10, 10, "@* ");
    y.move(RIGHT);
    Check.due("pushed off its goal", y.solved(), false);
  }

  private static void counters() {
    BoxPushSolver x = new BoxPushSolver(10, 10);
    Check.due("moveCount not started", x.moveCount(), 0);
    Check.due("pushCount not started", x.pushCount(), 0);
    x.move(UP);
    x.push(1, 1, 1);
    Check.due("moveCount after refusals", x.moveCount(), 0);
    Check.due("pushCount after refusals", x.pushCount(), 0);
    Check.draw(x, "       ", " @$  . ", "       ");
    x.start();
    int[] wantMoves = {1, 2, 3, 3, 4, 5, 4};
    int[] wantPushes = {0, 0, 1, 1, 2, 2, 2};
    for (int i = 0; i < wantMoves.length; i++) {
      counterStep(x, i);
      Check.due("moveCount after step " + i, x.moveCount(), wantMoves[i]);
      Check.due("pushCount after step " + i, x.pushCount(), wantPushes[i]);
    }
    x.solve();
    Check.due("moveCount after solve", x.moveCount(), 4);
    Check.due("pushCount after solve", x.pushCount(), 2);
  }

  private static void counterStep(BoxPushSolver x, int i) {
    if (i == 0) {
      x.move(UP);
    } else if (i == 1) {
      x.move(DOWN);
    } else if (i == 2) {
      x.move(RIGHT);
    } else if (i == 3) {
      x.push(1, 2, RIGHT);
    } else if (i == 4) {
      x.push(1, 3, LEFT);
    } else if (i == 5) {
      x.move(UP);
    } else {
      x.undo();
    }
  }

  private static void readingChangesNothing() {
    BoxPushSolver x = Check.started(10, 10, "       ", " @$  . ", "       ");
    x.solve();
    x.move(UP);
    x.push(1, 2, RIGHT);
    String before = Check.reading(x);
    for (int i = 0; i < 5; i++) {
      Check.same("reading again", Check.reading(x), before);
      x.getCell(-1, 3);
      x.boxAt(9, 3);
      x.reachable(9, 3);
      x.live(-9, 3);
      x.solutionPush(-1);
      x.solutionPush(99);
    }
    Check.due("history after reading", Check.undoAll(x), 2);
  }
}
