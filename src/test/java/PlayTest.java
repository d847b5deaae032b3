/** Promises 4 to 6: move, push and undo. */
public final class PlayTest {
  private static final int UP = BoxPushSolver.UP;
  private static final int RIGHT = BoxPushSolver.RIGHT;
  private static final int DOWN = BoxPushSolver.DOWN;
  private static final int LEFT = BoxPushSolver.LEFT;
  private static final int[] ROW_STEP = {-1, 0, 1, 0};
  private static final int[] COL_STEP = {0, 1, 0, -1};

  public static void main(String[] args) {
    moveRefusals();
    moveWalksEveryWay();
    movePushesEveryWay();
    moveBlockedByTheBoxAhead();
    movesDoNotLeaveTheGrid();
    pushRefusals();
    pushConditionsInOrder();
    pushFromAfar();
    pushAtTheEdgeOfTheGrid();
    pushOntoThePushersCell();
    undoRefusals();
    undoReverts();
    historyIsBounded();
    historyAfterUndo();
    stepsKeepTheStoredSolution();
    Check.end();
  }

  private static void moveRefusals() {
    BoxPushSolver fresh = new BoxPushSolver(10, 10);
    for (int dir = -2; dir < 6; dir++) {
      Check.due("move(" + dir + ") not started", fresh.move(dir), -1);
    }
    BoxPushSolver x = Check.started(10, 10, "   ", " @ ", "   ", "$.");
    String before = Check.reading(x);
    int[] bad = {Integer.MIN_VALUE, -5, -4, -3, -2, -1, 4, 5, 6, 7, 256, Integer.MAX_VALUE};
    for (int dir : bad) {
      Check.due("move(" + dir + ")", x.move(dir), -2);
    }
    Check.same("refused move", Check.reading(x), before);
    Check.due("undo after refused moves", x.undo(), false);

    BoxPushSolver y = Check.started(10, 10, "###", "#@#", "###", "$.");
    before = Check.reading(y);
    for (int dir = 0; dir < 4; dir++) {
      Check.due("move into a wall", y.move(dir), -3);
    }
    Check.same("move into a wall", Check.reading(y), before);
    Check.due("undo after blocked moves", y.undo(), false);
  }

  private static void moveWalksEveryWay() {
    for (int dir = 0; dir < 4; dir++) {
      BoxPushSolver x = Check.started(10, 10, "   ", " @ ", "   ", "$.");
      Check.due("move(" + dir + ")", x.move(dir), 1);
      Check.due("pusher", x.pusher(), (1 + ROW_STEP[dir]) * 8 + 1 + COL_STEP[dir]);
      Check.due("moveCount", x.moveCount(), 1);
      Check.due("pushCount", x.pushCount(), 0);
      Check.due("box stays", x.boxAt(3, 0), true);
    }
    BoxPushSolver onGoal = Check.started(10, 10, "@.", "$ ");
    Check.due("walk onto a goal", onGoal.move(RIGHT), 1);
    Check.due("walk off a goal", onGoal.move(DOWN), 1);
  }

  private static void movePushesEveryWay() {
    for (int dir = 0; dir < 4; dir++) {
      BoxPushSolver x = new BoxPushSolver(10, 10);
      Check.draw(x, "     ", "     ", "  @  ", "     ", "     ", ".");
      x.setCell(2 + ROW_STEP[dir], 2 + COL_STEP[dir], '$');
      Check.due("start", x.start(), 0);
      Check.due("move(" + dir + ") pushes", x.move(dir), 2);
      Check.due("pusher", x.pusher(), (2 + ROW_STEP[dir]) * 8 + 2 + COL_STEP[dir]);
      Check.due("box has left", x.boxAt(2 + ROW_STEP[dir], 2 + COL_STEP[dir]), false);
      Check.due("box has come", x.boxAt(2 + 2 * ROW_STEP[dir], 2 + 2 * COL_STEP[dir]), true);
      Check.due("moveCount", x.moveCount(), 1);
      Check.due("pushCount", x.pushCount(), 1);
      String before = Check.reading(x);
      Check.due("no push over the edge", x.move(dir), -3);
      Check.same("no push over the edge", Check.reading(x), before);
    }
  }

  private static void moveBlockedByTheBoxAhead() {
    BoxPushSolver x = Check.started(10, 10, "@$$ ..");
    String before = Check.reading(x);
    Check.due("two boxes in a row", x.move(RIGHT), -3);
    Check.same("two boxes in a row", Check.reading(x), before);
    BoxPushSolver y = Check.started(10, 10, "@$#.");
    before = Check.reading(y);
    Check.due("box at a wall", y.move(RIGHT), -3);
    Check.same("box at a wall", Check.reading(y), before);
    Check.due("undo after blocked pushes", y.undo(), false);
    BoxPushSolver z = Check.started(10, 10, "@*.$", "   ");
    Check.due("box from goal to goal", z.move(RIGHT), 2);
    Check.due("then blocked by the other box", z.move(RIGHT), -3);
  }

  private static void movesDoNotLeaveTheGrid() {
    String[] open = {"        ", "        ", "        ", "   $.   ", "        ", "        ", "        ", "        "};
    for (int cell = 0; cell < 64; cell++) {
      int row = cell / 8;
      int col = cell % 8;
      if (row == 3 && (col == 3 || col == 4)) {
        continue;
      }
      for (int dir = 0; dir < 4; dir++) {
        BoxPushSolver x = new BoxPushSolver(10, 10);
        Check.draw(x, open);
        x.setCell(row, col, '@');
        Check.due("start", x.start(), 0);
        int nextRow = row + ROW_STEP[dir];
        int nextCol = col + COL_STEP[dir];
        boolean inside = nextRow >= 0 && nextRow < 8 && nextCol >= 0 && nextCol < 8;
        int want = nextRow == 3 && nextCol == 3 ? 2 : inside ? 1 : -3;
        Check.due("move(" + dir + ") from " + cell, x.move(dir), want);
        Check.due("pusher after move(" + dir + ") from " + cell, x.pusher(), inside ? nextRow * 8 + nextCol : cell);
      }
    }
  }

  private static void pushRefusals() {
    BoxPushSolver fresh = new BoxPushSolver(10, 10);
    Check.due("push not started", fresh.push(1, 1, 1), -1);
    Check.due("push not started, bad arguments", fresh.push(-1, 9, 7), -1);
    BoxPushSolver x = Check.started(10, 10, "      ", " @$ . ", "      ");
    String before = Check.reading(x);
    for (int bad : Check.EXTREMES) {
      Check.due("push(" + bad + ", 2, 1)", x.push(bad, 2, 1), -2);
      Check.due("push(1, " + bad + ", 1)", x.push(1, bad, 1), -2);
      Check.due("push(1, 2, " + bad + ")", x.push(1, 2, bad), -2);
      Check.due("push(" + bad + ", 10, 1)", x.push(bad, 10, 1), -2);
    }
    Check.due("push with direction 4", x.push(1, 2, 4), -2);
    Check.due("push(0, 10, 1) is not box cell 10", x.push(0, 10, 1), -2);
    Check.due("push(2, -6, 1) is not box cell 10", x.push(2, -6, 1), -2);
    for (int cell = 0; cell < 64; cell++) {
      for (int dir = 0; dir < 4; dir++) {
        if (cell != 10) {
          Check.due("push of no box " + cell, x.push(cell / 8, cell % 8, dir), -4);
        }
      }
    }
    Check.same("refused push", Check.reading(x), before);
    Check.due("undo after refused pushes", x.undo(), false);
  }

  private static void pushConditionsInOrder() {
    BoxPushSolver x = Check.started(10, 10, "@#$ .", " #   ", "#####");
    String before = Check.reading(x);
    Check.due("bad direction and no box", x.push(1, 3, 4), -2);
    Check.due("no box, blocked", x.push(1, 4, RIGHT), -4);
    Check.due("wall ahead, behind free but not reachable", x.push(0, 2, LEFT), -3);
    Check.due("wall behind", x.push(0, 2, RIGHT), -3);
    Check.due("grid's end ahead", x.push(0, 2, UP), -3);
    Check.due("grid's end behind", x.push(0, 2, DOWN), -3);
    Check.same("pushes in order", Check.reading(x), before);
    BoxPushSolver y = Check.started(10, 10, "@# $ .", " #    ", "######");
    before = Check.reading(y);
    Check.due("not reachable", y.push(0, 3, RIGHT), -5);
    Check.due("not reachable either", y.push(0, 3, LEFT), -5);
    Check.same("not reachable", Check.reading(y), before);
    Check.due("undo after unreachable pushes", y.undo(), false);
    BoxPushSolver z = Check.started(10, 10, "    ", " $$ ", "@   ", "..");
    Check.due("box ahead", z.push(1, 1, RIGHT), -3);
    Check.due("box behind", z.push(1, 1, LEFT), -3);
    Check.due("from below", z.push(1, 1, UP), 2);
    BoxPushSolver closed = Check.started(10, 10, " #   ", " $ . ", "@$ . ", "#####");
    Check.due("the box itself closes the way", closed.push(1, 1, LEFT), -5);
    Check.due("the box from the open side", closed.push(1, 1, RIGHT), 2);
  }

  private static void pushFromAfar() {
    BoxPushSolver x = Check.started(10, 10, "@      ", "#####  ", "   .$  ", "       ");
    Check.due("push after a long walk", x.push(2, 4, LEFT), 2);
    Check.due("pusher", x.pusher(), 20);
    Check.due("box has left", x.boxAt(2, 4), false);
    Check.due("box has come", x.boxAt(2, 3), true);
    Check.due("moveCount", x.moveCount(), 1);
    Check.due("pushCount", x.pushCount(), 1);
    Check.due("solved", x.solved(), true);
    Check.due("undo", x.undo(), true);
    Check.due("pusher is back", x.pusher(), 0);
    Check.due("box is back", x.boxAt(2, 4), true);
    Check.due("box is not there", x.boxAt(2, 3), false);
    Check.due("moveCount", x.moveCount(), 0);
    Check.due("pushCount", x.pushCount(), 0);
    Check.due("one record alone", x.undo(), false);
    for (int dir = 0; dir < 4; dir++) {
      BoxPushSolver y = Check.started(10, 10, "@    ", "     ", "  $  ", "     ", "    .");
      Check.due("push(" + dir + ")", y.push(2, 2, dir), 2);
      Check.due("pusher", y.pusher(), 18);
      Check.due("box", y.boxAt(2 + ROW_STEP[dir], 2 + COL_STEP[dir]), true);
    }
  }

  private static void pushAtTheEdgeOfTheGrid() {
    String[] empty = {"        ", "        ", "        ", "    @   ", "        ", "    .   ", "        ", "        "};
    for (int cell = 0; cell < 64; cell++) {
      int row = cell / 8;
      int col = cell % 8;
      if (cell == 28 || cell == 44) {
        continue;
      }
      for (int dir = 0; dir < 4; dir++) {
        BoxPushSolver x = new BoxPushSolver(10, 10);
        Check.draw(x, empty);
        x.setCell(row, col, '$');
        Check.due("start", x.start(), 0);
        int along = dir % 2 == 0 ? row : col;
        boolean legal = along > 0 && along < 7;
        Check.due("push(" + dir + ") of " + cell, x.push(row, col, dir), legal ? 2 : -3);
        Check.due("moveCount", x.moveCount(), legal ? 1 : 0);
      }
    }
  }

  private static void pushOntoThePushersCell() {
    BoxPushSolver x = Check.started(10, 10, "    ", " @$ ", "   .");
    Check.due("push towards the pusher's own cell", x.push(1, 2, LEFT), 2);
    Check.due("box", x.boxAt(1, 1), true);
    Check.due("pusher", x.pusher(), 10);
    Check.due("undo", x.undo(), true);
    Check.due("pusher is back", x.pusher(), 9);
    Check.due("box is back", x.boxAt(1, 2), true);
  }

  private static void undoRefusals() {
    BoxPushSolver fresh = new BoxPushSolver(10, 10);
    String before = Check.reading(fresh);
    Check.due("undo not started", fresh.undo(), false);
    Check.same("undo not started", Check.reading(fresh), before);
    BoxPushSolver x = Check.started(10, 10, "@$ .");
    before = Check.reading(x);
    Check.due("undo without a record", x.undo(), false);
    Check.same("undo without a record", Check.reading(x), before);
  }

  private static void undoReverts() {
    BoxPushSolver x = Check.started(10, 20, "      ", " @$ . ", "  $ . ", "      ");
    String[] before = new String[10];
    int count = 0;
    before[count++] = Check.reading(x);
    Check.due("walk", x.move(UP), 1);
    before[count++] = Check.reading(x);
    Check.due("push", x.push(1, 2, RIGHT), 2);
    before[count++] = Check.reading(x);
    Check.due("pushing move", x.move(RIGHT), 2);
    before[count++] = Check.reading(x);
    Check.due("walk", x.move(LEFT), 1);
    before[count++] = Check.reading(x);
    Check.due("push of the other box", x.push(2, 2, DOWN), 2);
    before[count++] = Check.reading(x);
    Check.due("push back", x.push(1, 4, LEFT), 2);
    Check.due("moveCount", x.moveCount(), 6);
    Check.due("pushCount", x.pushCount(), 4);
    for (int i = count - 1; i >= 0; i--) {
      Check.due("undo", x.undo(), true);
      Check.same("undo to " + i, Check.reading(x), before[i]);
    }
    Check.due("no more undo", x.undo(), false);
    Check.same("no more undo", Check.reading(x), before[0]);
  }

  private static void historyIsBounded() {
    for (int size = 8; size <= 64; size++) {
      for (int steps = size - 1; steps <= 3 * size; steps += size - 1) {
        BoxPushSolver x = Check.started(10, size, "@$      ", "       .");
        String[] seen = new String[steps + 1];
        for (int i = 0; i < steps; i++) {
          seen[i] = Check.position(x);
          // Three pushing moves, then walks to and fro.
          Check.due("step", x.move(i < 3 || i % 2 == 0 ? RIGHT : LEFT) > 0, true);
        }
        int possible = steps < size ? steps : size;
        for (int i = 1; i <= possible; i++) {
          Check.due("undo " + i, x.undo(), true);
          Check.same("undo " + i + " of " + steps, Check.position(x), seen[steps - i]);
        }
        Check.due("no undo beyond " + possible, x.undo(), false);
        Check.same("no undo beyond", Check.position(x), seen[steps - possible]);
      }
    }
  }

  private static void historyAfterUndo() {
    BoxPushSolver x = Check.started(10, 8, "@  #$.");
    for (int i = 0; i < 20; i++) {
      x.move(i % 2 == 0 ? RIGHT : LEFT);
    }
    for (int i = 0; i < 5; i++) {
      Check.due("undo", x.undo(), true);
    }
    Check.due("pusher", x.pusher(), 1);
    Check.due("refused step adds no record", x.move(UP), -3);
    Check.due("new step", x.move(RIGHT), 1);
    Check.due("new step", x.move(LEFT), 1);
    Check.due("three old records and two new", Check.undoAll(x), 5);
    Check.due("moveCount", x.moveCount(), 12);
  }

  private static void stepsKeepTheStoredSolution() {
    BoxPushSolver x = Check.started(10, 8, "      ", "@$  . ", "      ");
    Check.due("solve", x.solve(), 3);
    String stored = Check.solution(x);
    x.move(RIGHT);
    Check.same("solution after a pushing move", Check.solution(x), stored);
    x.move(LEFT);
    Check.same("solution after a walk", Check.solution(x), stored);
    x.push(1, 2, UP);
    Check.same("solution after a push", Check.solution(x), stored);
    x.undo();
    Check.same("solution after an undo", Check.solution(x), stored);
    x.move(9);
    Check.same("solution after a refusal", Check.solution(x), stored);
  }
}
