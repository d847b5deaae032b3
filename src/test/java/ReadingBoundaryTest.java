import java.util.function.Consumer;

/** Promises 7 to 13 at their boundaries: one method for each sentence that names one, with the sentence's words. */
public final class ReadingBoundaryTest {
  private static final int UP = BoxPushSolver.UP;
  private static final int RIGHT = BoxPushSolver.RIGHT;
  private static final int DOWN = BoxPushSolver.DOWN;

  private interface CellReader {
    boolean read(BoxPushSolver x, int row, int col);
  }

  public static void main(String[] args) {
    pusherFirstAndLastCell();
    pusherNotStarted();
    boxAtNotStarted();
    boxAtOutside();
    boxAtFirstAndLastCell();
    reachableNotStarted();
    reachableOutside();
    pusherCellIsAlwaysReachable();
    wallsAndBoxesAreNeverReachable();
    reachableEndsAtTheGrid();
    liveNotStarted();
    liveOutside();
    everyGoalIsLive();
    noWallIsLive();
    liveEndsAtTheGrid();
    liveStaysTheSame();
    solvedNotStarted();
    solvedNeedsEveryBox();
    moveCountNotStarted();
    pushCountNotStarted();
    readingChangesNothing();
    Check.end();
  }

  private static BoxPushSolver withPusherAt(int cell) {
    BoxPushSolver x = new BoxPushSolver(10, 10);
    int box = (cell + 20) % 64;
    int goal = (cell + 40) % 64;
    x.setCell(cell / 8, cell % 8, '@');
    x.setCell(box / 8, box % 8, '$');
    x.setCell(goal / 8, goal % 8, '.');
    Check.due("start", x.start(), 0);
    return x;
  }

  private static void eachNotStarted(Consumer<BoxPushSolver> check) {
    check.accept(new BoxPushSolver(10, 10));
    BoxPushSolver drawn = new BoxPushSolver(10, 10);
    Check.draw(drawn, " @*  ", "     ");
    check.accept(drawn);
    drawn.move(RIGHT);
    drawn.push(0, 2, RIGHT);
    check.accept(drawn);
    drawn.setCell(7, 7, '@');
    Check.due("refused start", drawn.start(), BoxPushSolver.ERR_PUSHER);
    check.accept(drawn);
    Check.draw(drawn, " @   ");
    Check.due("refused start", drawn.start(), BoxPushSolver.ERR_BOXES);
    check.accept(drawn);
    Check.draw(drawn, " @*. ");
    Check.due("refused start", drawn.start(), BoxPushSolver.ERR_GOALS);
    check.accept(drawn);
  }

  private static void falseNotStarted(CellReader reader) {
    eachNotStarted(x -> {
      for (int cell = 0; cell < 64; cell++) {
        Check.due("cell " + cell, reader.read(x, cell / 8, cell % 8), false);
      }
      for (int bad : Check.EXTREMES) {
        Check.due("row " + bad, reader.read(x, bad, 0), false);
        Check.due("column " + bad, reader.read(x, 0, bad), false);
      }
    });
  }

  /** The level is open to all edges, with boxes and goals at the edges, so that each reading is true there. */
  private static void falseOutside(CellReader reader) {
    String[] open = {"  *     ", "        ", "        ", "*      *", "        ", "        ", "        ", "    @   "};
    BoxPushSolver x = Check.started(10, 10, open);
    for (int bad : Check.EXTREMES) {
      for (int good = 0; good < 8; good++) {
        Check.due("(" + bad + ", " + good + ")", reader.read(x, bad, good), false);
        Check.due("(" + good + ", " + bad + ")", reader.read(x, good, bad), false);
      }
      for (int other : Check.EXTREMES) {
        Check.due("(" + bad + ", " + other + ")", reader.read(x, bad, other), false);
      }
    }
    // Pairs whose row*8+col is a cell of the grid, or comes to one by wrapping around.
    for (int cell = 0; cell < 64; cell++) {
      Check.due("(-1, " + (cell + 8) + ")", reader.read(x, -1, cell + 8), false);
      Check.due("(8, " + (cell - 64) + ")", reader.read(x, 8, cell - 64), false);
      Check.due("(2^29, " + cell + ")", reader.read(x, 1 << 29, cell), false);
      Check.due("(-2^31, " + cell + ")", reader.read(x, Integer.MIN_VALUE, cell), false);
      Check.due("(row before, col + 8)", reader.read(x, cell / 8 - 1, cell % 8 + 8), false);
      Check.due("(row after, col - 8)", reader.read(x, cell / 8 + 1, cell % 8 - 8), false);
    }
  }

  private static void pusherFirstAndLastCell() {
    Check.sentence("7: pusher() answers a value in 0..63");
    for (int cell = 0; cell < 64; cell++) {
      Check.due("pusher", withPusherAt(cell).pusher(), cell);
    }
  }

  private static void pusherNotStarted() {
    Check.sentence("7: It answers -1 when NOT STARTED");
    eachNotStarted(x -> Check.due("pusher", x.pusher(), -1));
  }

  private static void boxAtNotStarted() {
    Check.sentence("8: boxAt answers false when the object is not started");
    falseNotStarted((x, row, col) -> x.boxAt(row, col));
  }

  private static void boxAtOutside() {
    Check.sentence("8: boxAt answers false for any out-of-range argument");
    falseOutside((x, row, col) -> x.boxAt(row, col));
  }

  private static void boxAtFirstAndLastCell() {
    Check.sentence("8: boxAt answers true exactly when a box is at (row, col)");
    for (int cell = 0; cell < 64; cell++) {
      BoxPushSolver x = withPusherAt((cell + 44) % 64);
      for (int at = 0; at < 64; at++) {
        Check.due("boxAt " + at, x.boxAt(at / 8, at % 8), at == cell);
      }
    }
  }

  private static void reachableNotStarted() {
    Check.sentence("9: NOT STARTED gives false");
    falseNotStarted((x, row, col) -> x.reachable(row, col));
  }

  private static void reachableOutside() {
    Check.sentence("9: Out-of-range arguments give false");
    falseOutside((x, row, col) -> x.reachable(row, col));
  }

  private static void pusherCellIsAlwaysReachable() {
    Check.sentence("9: The pusher cell is always reachable");
    for (int cell = 0; cell < 64; cell++) {
      // Walls all round: the pusher's cell is the only one.
      BoxPushSolver x = withPusherAt(cell);
      for (int at = 0; at < 64; at++) {
        Check.due("pusher shut in at " + cell + ", cell " + at, x.reachable(at / 8, at % 8), at == cell);
      }
    }
    BoxPushSolver between = Check.started(10, 10, "#*#", "*@*", "###");
    Check.due("between boxes", between.reachable(1, 1), true);
    BoxPushSolver x = Check.played();
    Check.due("in play", x.reachable(1, 3), true);
    while (x.undo()) {
      Check.due("after an undo", x.reachable(x.pusher() / 8, x.pusher() % 8), true);
    }
    BoxPushSolver onGoal = Check.started(10, 10, "+$");
    Check.due("on a goal", onGoal.reachable(0, 0), true);
  }

  private static void wallsAndBoxesAreNeverReachable() {
    Check.sentence("9: Walls and box cells never are");
    String[] rows = {" #  *   ", "  @   # ", " $    . ", "   #    ", "        ", "     $. ", " ##     ", "        "};
    BoxPushSolver x = Check.started(10, 10, rows);
    for (int cell = 0; cell < 64; cell++) {
      boolean shut = "#$*".indexOf(rows[cell / 8].charAt(cell % 8)) >= 0;
      Check.due("cell " + cell, x.reachable(cell / 8, cell % 8), !shut);
    }
    Check.due("push", x.push(5, 5, RIGHT), BoxPushSolver.PUSHED);
    Check.due("the box's new cell", x.reachable(5, 6), false);
    Check.due("the box's former cell", x.reachable(5, 5), true);
    Check.due("undo", x.undo(), true);
    Check.due("the box's cell again", x.reachable(5, 5), false);
    Check.due("free again", x.reachable(5, 6), true);
  }

  private static void reachableEndsAtTheGrid() {
    Check.sentence("9: a chain of steps between 4-neighbouring FREE cells (none outside the grid)");
    for (int i = 0; i < 16; i++) {
      int side = i < 8 ? 0 : 7;
      int at = i % 8;
      BoxPushSolver rows = opposite(side, at, true);
      BoxPushSolver columns = opposite(side, at, false);
      for (int other = 0; other < 8; other++) {
        Check.due("the pusher's row", rows.reachable(side, other), true);
        Check.due("the opposite row", rows.reachable(7 - side, other), false);
        Check.due("the pusher's column", columns.reachable(other, side), true);
        Check.due("the opposite column", columns.reachable(other, 7 - side), false);
      }
    }
    BoxPushSolver corners = Check.started(10, 10, " # # # #", "# #@# # ", " # # #*#");
    Check.due("not from corner to corner", corners.reachable(0, 2), false);
    Check.due("not from corner to corner", corners.reachable(2, 4), false);
  }

  /** The first and the last row, or column, are open; the pusher is in one of them, walls and the box are between. */
  private static BoxPushSolver opposite(int side, int at, boolean rows) {
    BoxPushSolver x = new BoxPushSolver(10, 10);
    for (int i = 0; i < 8; i++) {
      x.setCell(rows ? 0 : i, rows ? i : 0, ' ');
      x.setCell(rows ? 7 : i, rows ? i : 7, ' ');
    }
    x.setCell(rows ? side : at, rows ? at : side, '@');
    x.setCell(3, 3, '*');
    Check.due("start", x.start(), 0);
    return x;
  }

  private static void liveNotStarted() {
    Check.sentence("10: NOT STARTED gives false");
    falseNotStarted((x, row, col) -> x.live(row, col));
  }

  private static void liveOutside() {
    Check.sentence("10: Out-of-range arguments give false");
    falseOutside((x, row, col) -> x.live(row, col));
  }

  private static void everyGoalIsLive() {
    Check.sentence("10: Every goal cell is live");
    for (int cell = 0; cell < 64; cell++) {
      // The goal is shut in between walls: it is live, and nothing else is.
      BoxPushSolver x = withPusherAt((cell + 24) % 64);
      for (int at = 0; at < 64; at++) {
        Check.due("goal " + cell + ", cell " + at, x.live(at / 8, at % 8), at == cell);
      }
    }
    Check.due("goal under a box", Check.started(10, 10, "@*").live(0, 1), true);
    Check.due("goal under the pusher", Check.started(10, 10, "+$").live(0, 0), true);
    BoxPushSolver three = Check.started(10, 10, "+#*#.#$$");
    Check.due("live cells of three goals shut in", Check.liveCount(three), 3);
  }

  private static void noWallIsLive() {
    Check.sentence("10: no wall is live");
    String[] rows = {"#  #    ", "   .  # ", " #   #  ", "   # .  ", " @ $  # ", "  # $   ", "#     # ", "   #    "};
    BoxPushSolver x = Check.started(10, 10, rows);
    for (int cell = 0; cell < 64; cell++) {
      if (rows[cell / 8].charAt(cell % 8) == '#') {
        Check.due("wall " + cell, x.live(cell / 8, cell % 8), false);
      }
    }
    Check.due("there are live cells", Check.liveCount(x) > 10, true);
  }

  private static void dueLive(String what, BoxPushSolver x, String... map) {
    for (int cell = 0; cell < 64; cell++) {
      int row = cell / 8;
      int col = cell % 8;
      boolean want = row < map.length && col < map[row].length() && map[row].charAt(col) == 'x';
      Check.due(what + " " + row + ", " + col, x.live(row, col), want);
    }
  }

  private static void liveEndsAtTheGrid() {
    Check.sentence("10, Live set: the cells s = t-d and s-d are both inside the grid and not walls");
    dueLive("s-d outside at the right", Check.started(10, 10, "    .   ", "########", "@$"), " xxxxxx");
    dueLive("s-d a wall at the right", Check.started(10, 10, "    .  #", "########", "@$"), " xxxxx");
    dueLive("s-d a wall at the left", Check.started(10, 10, "#   .   ", "########", "@$"), "  xxxxx");
    dueLive("s a wall", Check.started(10, 10, "  # .   ", "########", "@$"), "    xxx");
    dueLive("goal at the right end", Check.started(10, 10, "       .", "########", "@$"), " xxxxxxx");
    dueLive("goal at the left end", Check.started(10, 10, ".       ", "########", "@$"), "xxxxxxx");
    dueLive("goal at the row's end, room in the next row",
        Check.started(10, 10, "#######.", "   #####", "@$"), "       x");
    dueLive("goal at the row's beginning, room in the row before",
        Check.started(10, 10, "#####   ", ".#######", "@$"), "", "x");
    dueLive("goal at the top of a column", Check.started(10, 10, ".#", " #@$", " #", " #", " #", " #", " #", " #"),
        "x", "x", "x", "x", "x", "x", "x");
    dueLive("goal at the bottom of a column", Check.started(10, 10, " #", " #@$", " #", " #", " #", " #", " #", ".#"),
        "", "x", "x", "x", "x", "x", "x", "x");
    dueLive("goal at the top, room at the bottom",
        Check.started(10, 10, ".#", "#@$", "###", "###", "###", "#", " ", " "), "x");
    dueLive("goal at the bottom, room at the top",
        Check.started(10, 10, " #", " #@$", "#", "#", "#", "#", "#", "."), "", "", "", "", "", "", "", "x");
    dueLive("two cells alone", Check.started(10, 10, ". #", "###", "@$"), "x");
    dueLive("three cells", Check.started(10, 10, ".  #", "####", "@$"), "xx");
  }

  private static void liveStaysTheSame() {
    Check.sentence("10: It stays the same through moves, pushes and undos");
    BoxPushSolver x = Check.started(10, 8, "        ", " @$.$   ", "   .    ", "        ");
    boolean[] before = new boolean[64];
    for (int cell = 0; cell < 64; cell++) {
      before[cell] = x.live(cell / 8, cell % 8);
    }
    Check.due("pushing move", x.move(RIGHT), BoxPushSolver.PUSHED);
    dueLive("after a pushing move", x, before);
    Check.due("walk", x.move(DOWN), BoxPushSolver.WALKED);
    dueLive("after a walk", x, before);
    Check.due("push", x.push(1, 4, UP), BoxPushSolver.PUSHED);
    dueLive("after a push", x, before);
    Check.due("refused push", x.push(0, 4, UP), BoxPushSolver.ERR_BLOCKED);
    dueLive("after a refused push", x, before);
    Check.due("solve", x.solve(), BoxPushSolver.ERR_TOO_BIG);
    dueLive("after solve", x, before);
    for (int i = 0; i < 4; i++) {
      Check.due("undo", x.undo(), i < 3);
      dueLive("after undo " + i, x, before);
    }
    // The same walls and goals with other boxes and another pusher.
    BoxPushSolver y = Check.started(10, 8, "$       ", "   .    ", "   .    ", "  $    @");
    dueLive("other boxes", y, before);
  }

  private static void dueLive(String what, BoxPushSolver x, boolean[] want) {
    for (int cell = 0; cell < 64; cell++) {
      Check.due(what + ", cell " + cell, x.live(cell / 8, cell % 8), want[cell]);
    }
  }

  private static void solvedNotStarted() {
    Check.sentence("11: It answers false when NOT STARTED");
    eachNotStarted(x -> Check.due("solved", x.solved(), false));
  }

  private static void solvedNeedsEveryBox() {
    Check.sentence("11: solved answers true exactly when every box is on a goal");
    for (int boxes = 1; boxes <= 3; boxes++) {
      for (int onGoals = 0; onGoals <= boxes; onGoals++) {
        int left = boxes - onGoals;
        String row = "@" + "*".repeat(onGoals) + "$".repeat(left) + ".".repeat(left);
        Check.due("solved " + row, Check.started(10, 10, row).solved(), left == 0);
      }
    }
    BoxPushSolver x = Check.started(10, 10, "@$. ");
    Check.due("before", x.solved(), false);
    Check.due("on", x.move(RIGHT), BoxPushSolver.PUSHED);
    Check.due("on its goal", x.solved(), true);
    Check.due("over", x.move(RIGHT), BoxPushSolver.PUSHED);
    Check.due("over its goal", x.solved(), false);
    Check.due("undo", x.undo(), true);
    Check.due("on its goal again", x.solved(), true);
    Check.due("undo", x.undo(), true);
    Check.due("before it again", x.solved(), false);
  }

  private static void moveCountNotStarted() {
    Check.sentence("12: moveCount answers 0 when NOT STARTED");
    eachNotStarted(x -> Check.due("moveCount", x.moveCount(), 0));
    BoxPushSolver x = Check.played();
    Check.due("moveCount in play", x.moveCount(), 13);
    Check.due("refused start", x.start() < 0, true);
    Check.due("moveCount after a refused start", x.moveCount(), 13);
    for (int dir = 0; dir < 4; dir++) {
      x.push(0, 0, dir);
      x.move(dir - 4);
    }
    Check.due("moveCount after refusals", x.moveCount(), 13);
    Check.due("undos", Check.undoAll(x), 8);
    Check.due("moveCount after all undos", x.moveCount(), 5);
  }

  private static void pushCountNotStarted() {
    Check.sentence("13: pushCount answers 0 when NOT STARTED");
    eachNotStarted(x -> Check.due("pushCount", x.pushCount(), 0));
    BoxPushSolver x = Check.played();
    Check.due("pushCount in play", x.pushCount(), 4);
    Check.due("refused start", x.start() < 0, true);
    Check.due("pushCount after a refused start", x.pushCount(), 4);
    for (int dir = 0; dir < 4; dir++) {
      x.push(0, 0, dir);
      x.move(dir - 4);
    }
    Check.due("pushCount after refusals", x.pushCount(), 4);
    Check.due("undos", Check.undoAll(x), 8);
    Check.due("pushCount after all undos", x.pushCount(), 2);
  }

  private static void readingChangesNothing() {
    Check.sentence("7 to 13: It changes nothing");
    int[] all = {Integer.MIN_VALUE, -1, 0, 1, 2, 3, 4, 5, 6, 7, 8, Integer.MAX_VALUE};
    BoxPushSolver x = Check.played();
    BoxPushSolver fresh = new BoxPushSolver(10, 10);
    for (int row : all) {
      for (int col : all) {
        readAll(x, row, col);
        Check.duePlayed(x);
        readAll(fresh, row, col);
        Check.due("not started", fresh.pusher(), -1);
      }
    }
    Check.due("undos", Check.undoAll(x), 8);
    Check.same("after the undos", Check.position(x), "13, at 21 moves 5 pushes 2");
  }

  private static void readAll(BoxPushSolver x, int row, int col) {
    x.pusher();
    x.boxAt(row, col);
    x.reachable(row, col);
    x.live(row, col);
    x.solved();
    x.moveCount();
    x.pushCount();
  }
}
