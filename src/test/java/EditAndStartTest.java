/** Promises 1 to 3: construction, the edit grid and start. */
public final class EditAndStartTest {
  private static final int[] LEVEL_CHARACTERS = {32, 35, 36, 42, 43, 46, 64};

  public static void main(String[] args) {
    freshObject();
    setCellStoresEveryCharacter();
    setCellRefuses();
    getCellOutsideTheGrid();
    editingLeavesThePlayPosition();
    startCountsPushers();
    startCountsBoxes();
    startCountsGoals();
    startConditionsInOrder();
    refusedStartChangesNothing();
    startCopiesEveryCharacter();
    startReplacesThePlayPosition();
    startOnASolvedLevel();
    Check.end();
  }

  private static void freshObject() {
    int[] some = {Integer.MIN_VALUE, -1, 0, 1, 8, 40, 64, Integer.MAX_VALUE};
    for (int pushLimit : some) {
      for (int historySize : some) {
        readNotStarted(new BoxPushSolver(pushLimit, historySize));
      }
    }
    BoxPushSolver x = new BoxPushSolver(10, 10);
    Check.due("start() on the fresh object", x.start(), BoxPushSolver.ERR_PUSHER);
    readNotStarted(x);
  }

  private static void readNotStarted(BoxPushSolver x) {
    for (int cell = 0; cell < 64; cell++) {
      int row = cell / 8;
      int col = cell % 8;
      Check.due("fresh getCell " + cell, x.getCell(row, col), 35);
      Check.due("fresh boxAt " + cell, x.boxAt(row, col), false);
      Check.due("fresh reachable " + cell, x.reachable(row, col), false);
      Check.due("fresh live " + cell, x.live(row, col), false);
    }
    Check.due("fresh pusher", x.pusher(), -1);
    Check.due("fresh moveCount", x.moveCount(), 0);
    Check.due("fresh pushCount", x.pushCount(), 0);
    Check.due("fresh solutionLength", x.solutionLength(), 0);
    Check.due("fresh solutionPush", x.solutionPush(0), -1);
    Check.due("fresh solved", x.solved(), false);
    Check.due("fresh undo", x.undo(), false);
    Check.due("fresh solve", x.solve(), BoxPushSolver.ERR_NOT_STARTED);
  }

  private static void setCellStoresEveryCharacter() {
    BoxPushSolver x = new BoxPushSolver(10, 10);
    int[] want = new int[64];
    for (int round = 0; round < LEVEL_CHARACTERS.length; round++) {
      for (int cell = 0; cell < 64; cell++) {
        want[cell] = LEVEL_CHARACTERS[(cell + round) % LEVEL_CHARACTERS.length];
        Check.due("setCell", x.setCell(cell / 8, cell % 8, want[cell]), true);
      }
      for (int cell = 0; cell < 64; cell++) {
        Check.due("getCell " + cell, x.getCell(cell / 8, cell % 8), want[cell]);
      }
    }
    BoxPushSolver y = new BoxPushSolver(10, 10);
    Check.due("setCell of one cell", y.setCell(3, 5, 46), true);
    for (int cell = 0; cell < 64; cell++) {
      Check.due("only one cell is changed, " + cell, y.getCell(cell / 8, cell % 8), cell == 29 ? 46 : 35);
    }
  }

  private static void setCellRefuses() {
    BoxPushSolver x = new BoxPushSolver(10, 10);
    String before = Check.reading(x);
    for (int bad : Check.EXTREMES) {
      for (int good = 0; good < 8; good++) {
        Check.due("setCell(" + bad + ", " + good + ")", x.setCell(bad, good, 32), false);
        Check.due("setCell(" + good + ", " + bad + ")", x.setCell(good, bad, 32), false);
      }
      Check.due("setCell outside twice", x.setCell(bad, bad, 32), false);
    }
    for (int ch = -300; ch <= 70000; ch++) {
      if (!isLevelCharacter(ch)) {
        Check.due("setCell of character " + ch, x.setCell(3, 4, ch), false);
      }
    }
    for (int ch : LEVEL_CHARACTERS) {
      Check.due("setCell of character " + ch + " and 65536", x.setCell(3, 4, ch + 65536), false);
      Check.due("setCell of character " + ch + " negated", x.setCell(3, 4, -ch), false);
    }
    Check.due("setCell of the least int", x.setCell(0, 0, Integer.MIN_VALUE), false);
    Check.due("setCell of the greatest int", x.setCell(0, 0, Integer.MAX_VALUE), false);
    Check.same("refused setCell", Check.reading(x), before);
  }

  private static boolean isLevelCharacter(int ch) {
    for (int known : LEVEL_CHARACTERS) {
      if (ch == known) {
        return true;
      }
    }
    return false;
  }

  private static void getCellOutsideTheGrid() {
    BoxPushSolver x = new BoxPushSolver(10, 10);
    for (int bad : Check.EXTREMES) {
      for (int good = 0; good < 8; good++) {
        Check.due("getCell(" + bad + ", " + good + ")", x.getCell(bad, good), -1);
        Check.due("getCell(" + good + ", " + bad + ")", x.getCell(good, bad), -1);
      }
      Check.due("getCell outside twice", x.getCell(bad, bad), -1);
    }
  }

  private static void editingLeavesThePlayPosition() {
    BoxPushSolver x = Check.started(10, 10, "     ", "@$ . ", "     ");
    Check.due("solve", x.solve(), 2);
    Check.due("push", x.push(1, 1, BoxPushSolver.RIGHT), BoxPushSolver.PUSHED);
    BoxPushSolver twin = Check.started(10, 10, "     ", "@$ . ", "     ");
    twin.solve();
    twin.push(1, 1, BoxPushSolver.RIGHT);
    for (int cell = 0; cell < 64; cell++) {
      Check.due("setCell", x.setCell(cell / 8, cell % 8, LEVEL_CHARACTERS[cell % 7]), true);
    }
    for (int cell = 0; cell < 64; cell++) {
      int row = cell / 8;
      int col = cell % 8;
      Check.due("getCell after edit", x.getCell(row, col), LEVEL_CHARACTERS[cell % 7]);
      Check.due("boxAt after edit", x.boxAt(row, col), twin.boxAt(row, col));
      Check.due("reachable after edit", x.reachable(row, col), twin.reachable(row, col));
      Check.due("live after edit", x.live(row, col), twin.live(row, col));
    }
    Check.same("position after edit", Check.position(x), Check.position(twin));
    Check.same("solution after edit", Check.solution(x), Check.solution(twin));
    Check.due("the last push still solves", x.push(1, 2, BoxPushSolver.RIGHT), BoxPushSolver.PUSHED);
    Check.due("solved", x.solved(), true);
    Check.due("history after edit", Check.undoAll(x), 2);
  }

  private static void startCountsPushers() {
    startAnswers(BoxPushSolver.ERR_PUSHER, " $.");
    startAnswers(BoxPushSolver.ERR_PUSHER, "@@$.");
    startAnswers(BoxPushSolver.ERR_PUSHER, "@+$");
    startAnswers(BoxPushSolver.ERR_PUSHER, "++$$");
    startAnswers(BoxPushSolver.ERR_PUSHER, "@@@$.");
    startAnswers(BoxPushSolver.OK, "@$.");
    startAnswers(BoxPushSolver.OK, "+$");
  }

  private static void startCountsBoxes() {
    startAnswers(BoxPushSolver.ERR_BOXES, "@");
    startAnswers(BoxPushSolver.ERR_BOXES, "@.");
    startAnswers(BoxPushSolver.ERR_BOXES, "+");
    startAnswers(BoxPushSolver.ERR_BOXES, "@$$$$", "....");
    startAnswers(BoxPushSolver.ERR_BOXES, "@****");
    startAnswers(BoxPushSolver.ERR_BOXES, "@$*$*..");
    startAnswers(BoxPushSolver.OK, "@$.");
    startAnswers(BoxPushSolver.OK, "@$*.");
    startAnswers(BoxPushSolver.OK, "@$*$..");
    startAnswers(BoxPushSolver.OK, "@***");
  }

  private static void startCountsGoals() {
    startAnswers(BoxPushSolver.ERR_GOALS, "@$");
    startAnswers(BoxPushSolver.ERR_GOALS, "@$..");
    startAnswers(BoxPushSolver.ERR_GOALS, "+$.");
    startAnswers(BoxPushSolver.ERR_GOALS, "@*.");
    startAnswers(BoxPushSolver.ERR_GOALS, "+*");
    startAnswers(BoxPushSolver.ERR_GOALS, "@$$$..");
    startAnswers(BoxPushSolver.ERR_GOALS, "@$$$", "....");
    startAnswers(BoxPushSolver.OK, "+$*.$");
  }

  private static void startConditionsInOrder() {
    startAnswers(BoxPushSolver.ERR_PUSHER, "");
    startAnswers(BoxPushSolver.ERR_PUSHER, "@@");
    startAnswers(BoxPushSolver.ERR_PUSHER, "$$$$");
    startAnswers(BoxPushSolver.ERR_PUSHER, "@@..");
    startAnswers(BoxPushSolver.ERR_PUSHER, "$..");
    startAnswers(BoxPushSolver.ERR_BOXES, "@..");
    startAnswers(BoxPushSolver.ERR_BOXES, "@$$$$");
  }

  private static void startAnswers(int want, String... rows) {
    BoxPushSolver x = new BoxPushSolver(10, 10);
    Check.draw(x, rows);
    Check.due("start() of " + String.join("/", rows), x.start(), want);
    Check.due("pusher() tells whether it started", x.pusher() >= 0, want == BoxPushSolver.OK);
    Check.due("move() tells whether it started", x.move(9), want == BoxPushSolver.OK ? -2 : -1);
  }

  private static void refusedStartChangesNothing() {
    String[][] bad = {{" "}, {"@@$."}, {"@"}, {"@$$$$", "...."}, {"@$"}, {"@$.."}};
    for (String[] rows : bad) {
      BoxPushSolver x = new BoxPushSolver(10, 10);
      Check.draw(x, rows);
      String before = Check.reading(x);
      Check.due("refused start", x.start() < 0, true);
      Check.same("refused start, not started", Check.reading(x), before);

      BoxPushSolver y = Check.started(10, 10, "     ", "@$ . ", "     ");
      y.solve();
      y.move(BoxPushSolver.UP);
      y.push(1, 1, BoxPushSolver.RIGHT);
      Check.draw(y, rows);
      before = Check.reading(y);
      Check.due("refused start again", y.start() < 0, true);
      Check.same("refused start, started before", Check.reading(y), before);
      Check.due("history after a refused start", Check.undoAll(y), 2);
      Check.due("pusher after its undo", y.pusher(), 8);
    }
  }

  private static void startCopiesEveryCharacter() {
    BoxPushSolver y = Check.started(10, 10, "  #$  ", "# + *  ", "       ");
    String before = Check.reading(y);
    Check.due("pusher", y.pusher(), 10);
    for (int cell = 0; cell < 64; cell++) {
      Check.due("boxAt " + cell, y.boxAt(cell / 8, cell % 8), cell == 3 || cell == 12);
    }
    Check.due("goal under the pusher is live", y.live(1, 2), true);
    Check.due("goal under the box is live", y.live(1, 4), true);
    Check.due("wall is not reachable", y.reachable(0, 2), false);
    Check.same("reading changes nothing", Check.reading(y), before);
    for (int cell = 0; cell < 64; cell++) {
      int row = cell / 8;
      int col = cell % 8;
      String[] rows = {"  #$  ", "# + *  ", "       "};
      int want = row < 3 && col < rows[row].length() ? rows[row].charAt(col) : '#';
      Check.due("start() leaves the edit grid, " + cell, y.getCell(row, col), want);
    }
  }

  private static void startReplacesThePlayPosition() {
    BoxPushSolver x = Check.started(10, 10, "     ", "@$ . ", "     ");
    x.solve();
    x.move(BoxPushSolver.RIGHT);
    x.move(BoxPushSolver.UP);
    String[] next = {"#  @", " *$.", "    "};
    Check.draw(x, next);
    Check.due("start() anew", x.start(), BoxPushSolver.OK);
    Check.same("start() anew", Check.reading(x), Check.reading(Check.started(10, 10, next)));
    Check.due("moveCount", x.moveCount(), 0);
    Check.due("pushCount", x.pushCount(), 0);
    Check.due("solutionLength", x.solutionLength(), 0);
    Check.due("undo() after start() anew", x.undo(), false);
    x.move(BoxPushSolver.LEFT);
    Check.due("start() of the same level", x.start(), BoxPushSolver.OK);
    Check.same("start() of the same level", Check.reading(x), Check.reading(Check.started(10, 10, next)));
    Check.due("undo() after start() of the same level", x.undo(), false);
  }

  private static void startOnASolvedLevel() {
    BoxPushSolver x = Check.started(10, 10, "@ *");
    Check.due("solved() at the start", x.solved(), true);
  }
}
