import java.lang.reflect.Field;
import java.lang.reflect.Modifier;
import java.util.function.IntSupplier;
import java.util.function.Supplier;

/** Promises 4 to 6 at their boundaries: one method for each sentence that names one, with the sentence's words. */
public final class PlayBoundaryTest {
  private static final int UP = BoxPushSolver.UP;
  private static final int RIGHT = BoxPushSolver.RIGHT;
  private static final int DOWN = BoxPushSolver.DOWN;
  private static final int LEFT = BoxPushSolver.LEFT;
  private static final int NOT_STARTED = BoxPushSolver.ERR_NOT_STARTED;
  private static final int ARG = BoxPushSolver.ERR_ARG;
  private static final int BLOCKED = BoxPushSolver.ERR_BLOCKED;
  private static final int NO_BOX = BoxPushSolver.ERR_NO_BOX;
  private static final int UNREACHABLE = BoxPushSolver.ERR_UNREACHABLE;
  private static final int[] ROW_STEP = {-1, 0, 1, 0};
  private static final int[] COL_STEP = {0, 1, 0, -1};
  private static final int[] NO_DIRECTIONS = {Integer.MIN_VALUE, Integer.MIN_VALUE + 1, -256, -5, -4, -3, -2, -1, 4, 5, 6, 7, 8,
      256, Integer.MAX_VALUE - 1, Integer.MAX_VALUE};

  public static void main(String[] args) throws ReflectiveOperationException {
    moveNotStarted();
    moveOfNoDirection();
    moveOutOfTheGrid();
    moveIntoAWall();
    movePushesOutOfTheGrid();
    movePushesIntoAWall();
    movePushesIntoABox();
    fullHistoryDropsTheOldestForAMove();
    moveCounterWraps();
    onlyAPushingMoveCountsAsPush();
    pushCounterWrapsOnMove();
    pushNotStarted();
    pushRowOutside();
    pushColumnOutside();
    pushOfNoDirection();
    pushOfNoBox();
    pushAheadNotFree();
    pushBehindNotFree();
    pushBehindNotReachable();
    pushOutsideTheGridCountsAsWall();
    pushSucceedsExactlyWhenLegal();
    pushAddsOneRecord();
    fullHistoryDropsTheOldestForAPush();
    countersWrapOnPush();
    undoNotStarted();
    undoWithoutRecords();
    undoOfALongWalk();
    undoTurnsTheCountersBack();
    undoOfAWalkKeepsThePushCounter();
    discardedRecordsAreGone();
    atMostAsManyUndosAsRecords();
    stepsLeaveTheRest();
    Check.end();
  }

  private static BoxPushSolver open(int pusherRow, int pusherCol, int boxRow, int boxCol) {
    BoxPushSolver x = new BoxPushSolver(10, 10);
    for (int cell = 0; cell < 64; cell++) {
      x.setCell(cell / 8, cell % 8, ' ');
    }
    x.setCell(4, 4, '.');
    x.setCell(pusherRow, pusherCol, pusherRow == 4 && pusherCol == 4 ? '+' : '@');
    x.setCell(boxRow, boxCol, boxRow == 4 && boxCol == 4 ? '*' : '$');
    Check.due("start", x.start(), 0);
    return x;
  }

  private static boolean inside(int row, int col) {
    return row >= 0 && row < 8 && col >= 0 && col < 8;
  }

  private static void moveRefused(String what, Supplier<BoxPushSolver> maker, int dir, int want) {
    Check.refused("move(" + dir + ") " + what, maker, x -> x.move(dir), want);
  }

  private static void pushRefused(String what, Supplier<BoxPushSolver> maker, int row, int col, int dir, int want) {
    Check.refused("push(" + row + ", " + col + ", " + dir + ") " + what, maker, x -> x.push(row, col, dir), want);
  }

  private static Supplier<BoxPushSolver> level(String... rows) {
    return () -> Check.started(10, 10, rows);
  }

  private static BoxPushSolver drawnNotStarted() {
    BoxPushSolver x = new BoxPushSolver(10, 10);
    Check.draw(x, " @$. ");
    return x;
  }

  private static BoxPushSolver startRefused() {
    BoxPushSolver x = drawnNotStarted();
    x.setCell(7, 7, '@');
    Check.due("refused start", x.start(), BoxPushSolver.ERR_PUSHER);
    return x;
  }

  private static void moveNotStarted() {
    Check.sentence("4: If NOT STARTED, it answers ERR_NOT_STARTED");
    for (int dir = 0; dir < 4; dir++) {
      moveRefused("on a fresh object", () -> new BoxPushSolver(10, 10), dir, NOT_STARTED);
      moveRefused("on a drawn level", PlayBoundaryTest::drawnNotStarted, dir, NOT_STARTED);
      moveRefused("after a refused start", PlayBoundaryTest::startRefused, dir, NOT_STARTED);
    }
    for (int dir : NO_DIRECTIONS) {
      moveRefused("comes before the argument", PlayBoundaryTest::drawnNotStarted, dir, NOT_STARTED);
    }
  }

  private static void moveOfNoDirection() {
    Check.sentence("4: If dir is outside 0..3, it answers ERR_ARG");
    for (int dir : NO_DIRECTIONS) {
      moveRefused("in play", Check::played, dir, ARG);
      moveRefused("in the open", () -> open(3, 3, 3, 4), dir, ARG);
      moveRefused("between walls", level("@#$."), dir, ARG);
    }
    for (int dir = 0; dir < 4; dir++) {
      Check.due("move(" + dir + ") in the open", open(3, 3, 5, 5).move(dir), BoxPushSolver.WALKED);
    }
  }

  private static void moveOutOfTheGrid() {
    Check.sentence("4: If t is outside the grid, it answers ERR_BLOCKED");
    for (int at = 0; at < 8; at++) {
      int along = at;
      moveRefused("from the top", () -> open(0, along, 3, 3), UP, BLOCKED);
      moveRefused("from the right", () -> open(along, 7, 3, 3), RIGHT, BLOCKED);
      moveRefused("from the bottom", () -> open(7, along, 3, 3), DOWN, BLOCKED);
      moveRefused("from the left", () -> open(along, 0, 3, 3), LEFT, BLOCKED);
    }
    // A box where the way out would come in again is not pushed.
    moveRefused("to the next row", () -> open(2, 7, 3, 0), RIGHT, BLOCKED);
    moveRefused("to the row before", () -> open(3, 0, 2, 7), LEFT, BLOCKED);
    moveRefused("to the bottom", () -> open(0, 3, 7, 3), UP, BLOCKED);
    moveRefused("to the top", () -> open(7, 3, 0, 3), DOWN, BLOCKED);
  }

  private static BoxPushSolver playedAtTheWall() {
    BoxPushSolver x = Check.played();
    Check.due("walk to the wall", x.move(DOWN), BoxPushSolver.WALKED);
    return x;
  }

  private static void moveIntoAWall() {
    Check.sentence("4: If t is a wall, it answers ERR_BLOCKED");
    for (int dir = 0; dir < 4; dir++) {
      moveRefused("between walls", level("###", "#@#", "###", "$ ."), dir, BLOCKED);
    }
    moveRefused("in play", PlayBoundaryTest::playedAtTheWall, DOWN, BLOCKED);
  }

  private static void movePushesOutOfTheGrid() {
    Check.sentence("4: If u is not FREE (outside the grid), it answers ERR_BLOCKED");
    for (int at = 0; at < 8; at++) {
      int along = at;
      moveRefused("at the top", () -> open(1, along, 0, along), UP, BLOCKED);
      moveRefused("at the right", () -> open(along, 6, along, 7), RIGHT, BLOCKED);
      moveRefused("at the bottom", () -> open(6, along, 7, along), DOWN, BLOCKED);
      moveRefused("at the left", () -> open(along, 1, along, 0), LEFT, BLOCKED);
    }
  }

  private static void movePushesIntoAWall() {
    Check.sentence("4: If u is not FREE (a wall), it answers ERR_BLOCKED");
    moveRefused("to a wall", level("@$#."), RIGHT, BLOCKED);
    moveRefused("to a wall", level(".#$@"), LEFT, BLOCKED);
    moveRefused("to a wall", level("@", "$", "#", "."), DOWN, BLOCKED);
    moveRefused("to a wall", level(".", "#", "$", "@"), UP, BLOCKED);
  }

  private static void movePushesIntoABox() {
    Check.sentence("4: If u is not FREE (holding a box), it answers ERR_BLOCKED");
    moveRefused("to a box", level("@$$ .."), RIGHT, BLOCKED);
    moveRefused("to a box on a goal", level("@$* ."), RIGHT, BLOCKED);
    moveRefused("to a box", level("@", "$", "$", " ", ".", "."), DOWN, BLOCKED);
    moveRefused("to a box", level(" $$@..", "      "), LEFT, BLOCKED);
    moveRefused("to a box", level("  ..", "$", "$", "@"), UP, BLOCKED);
    moveRefused("to two boxes", level("@$$$ ...", "        "), RIGHT, BLOCKED);
  }

  /** One step more in the level of fullHistory: pushes to and fro, or six pushing moves and then walks to and fro. */
  private static void step(BoxPushSolver x, boolean byPush, int i) {
    if (byPush) {
      Check.due("push " + i, x.push(0, i % 2 == 0 ? 1 : 2, i % 2 == 0 ? RIGHT : LEFT), BoxPushSolver.PUSHED);
    } else {
      Check.due("move " + i, x.move(i < 6 || i % 2 == 1 ? RIGHT : LEFT), i < 6 ? BoxPushSolver.PUSHED : BoxPushSolver.WALKED);
    }
  }

  private static void fullHistory(boolean byPush) {
    int[] sizes = {8, 9, 63, 64};
    for (int size : sizes) {
      int[] counts = {size - 1, size, size + 1, 2 * size, 2 * size + 1};
      for (int steps : counts) {
        BoxPushSolver x = Check.started(10, size, "@$      ", "        ", "    .   ");
        String[] seen = new String[steps];
        for (int i = 0; i < steps; i++) {
          seen[i] = Check.position(x);
          step(x, byPush, i);
        }
        int kept = Math.min(steps, size);
        for (int back = 1; back <= kept; back++) {
          Check.due("undo " + back + " of " + steps, x.undo(), true);
          Check.same("undo " + back + " of " + steps, Check.position(x), seen[steps - back]);
        }
        Check.due("no undo more of " + steps, x.undo(), false);
        Check.same("no undo more of " + steps, Check.position(x), seen[steps - kept]);
      }
    }
  }

  private static void fullHistoryDropsTheOldestForAMove() {
    Check.sentence("4: if H records are already held, the oldest is discarded first");
    fullHistory(false);
  }

  /** Sets a counter through its field, whatever its name: 2147483647 real steps would take too long. */
  private static void setCounter(BoxPushSolver x, IntSupplier counter, int value) throws ReflectiveOperationException {
    for (Field field : BoxPushSolver.class.getDeclaredFields()) {
      boolean fixed = Modifier.isStatic(field.getModifiers()) || Modifier.isFinal(field.getModifiers());
      if (fixed || field.getType() != int.class) {
        continue;
      }
      field.setAccessible(true);
      int kept = field.getInt(x);
      field.setInt(x, value);
      if (counter.getAsInt() == value) {
        return;
      }
      field.setInt(x, kept);
    }
    Check.due("a field holds the counter", false, true);
  }

  private static BoxPushSolver withCounters(int moves, int pushes) throws ReflectiveOperationException {
    BoxPushSolver x = Check.started(10, 8, "        ", " @$   . ", "        ");
    setCounter(x, x::moveCount, moves);
    setCounter(x, x::pushCount, pushes);
    dueCounters(x, moves, pushes);
    return x;
  }

  private static void dueCounters(BoxPushSolver x, int moves, int pushes) {
    Check.due("moveCount", x.moveCount(), moves);
    Check.due("pushCount", x.pushCount(), pushes);
  }

  private static void moveCounterWraps() throws ReflectiveOperationException {
    Check.sentence("4: the move counter wraps from Integer.MAX_VALUE to Integer.MIN_VALUE");
    BoxPushSolver x = withCounters(Integer.MAX_VALUE - 1, 5);
    Check.due("walk", x.move(UP), BoxPushSolver.WALKED);
    dueCounters(x, Integer.MAX_VALUE, 5);
    Check.due("walk", x.move(DOWN), BoxPushSolver.WALKED);
    dueCounters(x, Integer.MIN_VALUE, 5);
    Check.due("pushing move", x.move(RIGHT), BoxPushSolver.PUSHED);
    dueCounters(x, Integer.MIN_VALUE + 1, 6);
    BoxPushSolver y = withCounters(Integer.MAX_VALUE, 0);
    Check.due("pushing move", y.move(RIGHT), BoxPushSolver.PUSHED);
    dueCounters(y, Integer.MIN_VALUE, 1);
    BoxPushSolver z = withCounters(-1, 0);
    Check.due("walk", z.move(LEFT), BoxPushSolver.WALKED);
    dueCounters(z, 0, 0);
  }

  private static void onlyAPushingMoveCountsAsPush() {
    Check.sentence("4: on PUSHED only, the push counter rises by 1");
    BoxPushSolver x = Check.started(10, 8, "@ $ . ", "      ");
    Check.due("walk", x.move(RIGHT), BoxPushSolver.WALKED);
    dueCounters(x, 1, 0);
    Check.due("pushing move", x.move(RIGHT), BoxPushSolver.PUSHED);
    dueCounters(x, 2, 1);
    Check.due("walk", x.move(LEFT), BoxPushSolver.WALKED);
    dueCounters(x, 3, 1);
    Check.due("blocked", x.move(UP), BLOCKED);
    dueCounters(x, 3, 1);
  }

  private static void pushCounterWrapsOnMove() throws ReflectiveOperationException {
    Check.sentence("4: on PUSHED only, the push counter rises by 1 in the same way");
    BoxPushSolver x = withCounters(7, Integer.MAX_VALUE - 1);
    Check.due("pushing move", x.move(RIGHT), BoxPushSolver.PUSHED);
    dueCounters(x, 8, Integer.MAX_VALUE);
    Check.due("pushing move", x.move(RIGHT), BoxPushSolver.PUSHED);
    dueCounters(x, 9, Integer.MIN_VALUE);
    Check.due("pushing move", x.move(RIGHT), BoxPushSolver.PUSHED);
    dueCounters(x, 10, Integer.MIN_VALUE + 1);
  }

  private static void pushNotStarted() {
    Check.sentence("5: If NOT STARTED, it answers ERR_NOT_STARTED");
    pushRefused("on a fresh object", () -> new BoxPushSolver(10, 10), 0, 2, RIGHT, NOT_STARTED);
    pushRefused("on a drawn level", PlayBoundaryTest::drawnNotStarted, 0, 2, RIGHT, NOT_STARTED);
    pushRefused("after a refused start", PlayBoundaryTest::startRefused, 0, 2, RIGHT, NOT_STARTED);
    pushRefused("before the arguments", PlayBoundaryTest::drawnNotStarted, -1, 2, RIGHT, NOT_STARTED);
    pushRefused("before the arguments", PlayBoundaryTest::drawnNotStarted, 0, 8, RIGHT, NOT_STARTED);
    pushRefused("before the arguments", PlayBoundaryTest::drawnNotStarted, 0, 2, 4, NOT_STARTED);
    pushRefused("before the box", PlayBoundaryTest::drawnNotStarted, 0, 0, RIGHT, NOT_STARTED);
  }

  private static void pushRowOutside() {
    Check.sentence("5: If row is outside 0..7, it answers ERR_ARG");
    for (int row : Check.EXTREMES) {
      pushRefused("in play", Check::played, row, 5, LEFT, ARG);
      // These would come to the box's cell by row*8+col.
      pushRefused("in play", Check::played, row, 13 - 8 * row, LEFT, ARG);
    }
  }

  private static void pushColumnOutside() {
    Check.sentence("5: If col is outside 0..7, it answers ERR_ARG");
    for (int col : Check.EXTREMES) {
      pushRefused("in play", Check::played, 1, col, LEFT, ARG);
    }
    pushRefused("from the row before", Check::played, 0, 13, LEFT, ARG);
    pushRefused("from the next row", Check::played, 2, -3, LEFT, ARG);
  }

  private static void pushOfNoDirection() {
    Check.sentence("5: If dir is outside 0..3, it answers ERR_ARG");
    for (int dir : NO_DIRECTIONS) {
      pushRefused("in play", Check::played, 1, 5, dir, ARG);
      pushRefused("before the box", Check::played, 1, 3, dir, ARG);
    }
    for (int dir = 0; dir < 4; dir++) {
      Check.due("push in direction " + dir, open(6, 6, 3, 3).push(3, 3, dir), BoxPushSolver.PUSHED);
    }
  }

  private static void pushOfNoBox() {
    Check.sentence("5: If no box is at (row, col), it answers ERR_NO_BOX");
    for (int dir = 0; dir < 4; dir++) {
      pushRefused("the pusher", Check::played, 1, 3, dir, NO_BOX);
      pushRefused("a wall", Check::played, 3, 3, dir, NO_BOX);
      pushRefused("a goal", Check::played, 1, 2, dir, NO_BOX);
      pushRefused("where the box was", Check::played, 3, 5, dir, NO_BOX);
      pushRefused("beside the box", Check::played, 1, 4, dir, NO_BOX);
      pushRefused("the first cell", Check::played, 0, 0, dir, NO_BOX);
      pushRefused("the last cell", Check::played, 7, 7, dir, NO_BOX);
    }
  }

  private static void pushAheadNotFree() {
    Check.sentence("5: If the cell ahead (box + dir) is not FREE, it answers ERR_BLOCKED");
    pushRefused("a wall ahead", level("@$#."), 0, 1, RIGHT, BLOCKED);
    pushRefused("a box ahead", level("@$$ .."), 0, 1, RIGHT, BLOCKED);
    pushRefused("a box on a goal ahead", level("@$* ."), 0, 1, RIGHT, BLOCKED);
    pushRefused("the grid's end ahead", level("#######.", "      @$"), 1, 7, RIGHT, BLOCKED);
    pushRefused("before the way", level("@# $#."), 0, 3, RIGHT, BLOCKED);
    pushRefused("a box ahead, before the way", level("@# $$ .."), 0, 3, RIGHT, BLOCKED);
  }

  private static void pushBehindNotFree() {
    Check.sentence("5: If the cell behind (box - dir) is not FREE, it answers ERR_BLOCKED");
    pushRefused("a wall behind", level("#$ .", "@   "), 0, 1, RIGHT, BLOCKED);
    pushRefused("a box behind", level(" $$ ..", "@     "), 0, 2, RIGHT, BLOCKED);
    pushRefused("a box on a goal behind", level(" *$ .", "@    "), 0, 2, RIGHT, BLOCKED);
    pushRefused("the grid's end behind", level("$ .", "@   "), 0, 0, RIGHT, BLOCKED);
    pushRefused("a wall behind and a shut way", level("@##$ ."), 0, 3, RIGHT, BLOCKED);
    pushRefused("a box behind and a shut way", level("@# $$ .."), 0, 4, RIGHT, BLOCKED);
  }

  private static void pushBehindNotReachable() {
    Check.sentence("5: If the cell behind is not reachable, it answers ERR_UNREACHABLE");
    pushRefused("shut off by a wall", level("@# $ ."), 0, 3, RIGHT, UNREACHABLE);
    pushRefused("shut off by the box itself", level("@ $ ."), 0, 2, LEFT, UNREACHABLE);
    pushRefused("shut off by the other box", level("@$ $ .."), 0, 3, RIGHT, UNREACHABLE);
    pushRefused("corner to corner", level("@#  ", "# $.", "    "), 1, 2, RIGHT, UNREACHABLE);
    pushRefused("not round the row's end", level("#######@", " $ .####"), 1, 1, RIGHT, UNREACHABLE);
    pushRefused("not round the row's beginning", level("####. $ ", "@#######"), 0, 6, LEFT, UNREACHABLE);
    pushRefused("not over the top", level("###@####", "", "", "", "", "", "", "### $.##"), 7, 4, RIGHT, UNREACHABLE);
    pushRefused("not under the bottom", level("### $.##", "", "", "", "", "", "", "###@####"), 0, 4, RIGHT, UNREACHABLE);
  }

  private static void pushOutsideTheGridCountsAsWall() {
    Check.sentence("5: Cells outside the grid count as wall and so are not FREE");
    for (int cell = 0; cell < 64; cell++) {
      int row = cell / 8;
      int col = cell % 8;
      for (int dir = 0; dir < 4; dir++) {
        boolean aheadInside = inside(row + ROW_STEP[dir], col + COL_STEP[dir]);
        boolean behindInside = inside(row - ROW_STEP[dir], col - COL_STEP[dir]);
        int pusher = cell < 32 ? 6 : 1;
        if (!aheadInside || !behindInside) {
          pushRefused("at the grid's end", () -> open(pusher, pusher, row, col), row, col, dir, BLOCKED);
        } else {
          Check.due("push of " + cell, open(pusher, pusher, row, col).push(row, col, dir), BoxPushSolver.PUSHED);
        }
      }
    }
  }

  private static void pushSucceedsExactlyWhenLegal() {
    Check.sentence("5: The call succeeds exactly when the push (box cell, dir) is legal");
    // The pusher beside the box: behind it, ahead of it and at its sides.
    for (int side = 0; side < 4; side++) {
      for (int dir = 0; dir < 4; dir++) {
        BoxPushSolver x = open(3 + ROW_STEP[side], 3 + COL_STEP[side], 3, 3);
        Check.due("push(" + dir + ") from side " + side, x.push(3, 3, dir), BoxPushSolver.PUSHED);
        Check.due("pusher", x.pusher(), 27);
        Check.due("box", x.boxAt(3 + ROW_STEP[dir], 3 + COL_STEP[dir]), true);
        Check.due("undo", x.undo(), true);
        Check.due("pusher is back", x.pusher(), (3 + ROW_STEP[side]) * 8 + 3 + COL_STEP[side]);
      }
    }
  }

  private static void pushAddsOneRecord() {
    Check.sentence("5: exactly one history record is added, however far the pusher walked");
    String[][] levels = {{"@$ .", "    "}, {" $ .", "@   "}, {" $ .    ", " #######", "        ", "#######@"}};
    int[] pushers = {0, 8, 31};
    for (int i = 0; i < levels.length; i++) {
      BoxPushSolver x = Check.started(10, 8, levels[i]);
      String before = Check.reading(x);
      Check.due("pusher", x.pusher(), pushers[i]);
      Check.due("push", x.push(0, 1, RIGHT), BoxPushSolver.PUSHED);
      Check.due("pusher on the box's former cell", x.pusher(), 1);
      dueCounters(x, 1, 1);
      Check.due("undo", x.undo(), true);
      Check.same("undo", Check.reading(x), before);
      Check.due("no record more", x.undo(), false);
    }
  }

  private static void fullHistoryDropsTheOldestForAPush() {
    Check.sentence("5: one history record is added as in move(): the oldest is discarded when H are held");
    fullHistory(true);
  }

  private static void countersWrapOnPush() throws ReflectiveOperationException {
    Check.sentence("5: the move counter and the push counter each rise by exactly 1, with Java int arithmetic");
    BoxPushSolver x = withCounters(Integer.MAX_VALUE, 3);
    Check.due("push", x.push(1, 2, RIGHT), BoxPushSolver.PUSHED);
    dueCounters(x, Integer.MIN_VALUE, 4);
    BoxPushSolver y = withCounters(3, Integer.MAX_VALUE);
    Check.due("push", y.push(1, 2, RIGHT), BoxPushSolver.PUSHED);
    dueCounters(y, 4, Integer.MIN_VALUE);
    Check.due("push back", y.push(1, 3, LEFT), BoxPushSolver.PUSHED);
    dueCounters(y, 5, Integer.MIN_VALUE + 1);
    BoxPushSolver z = withCounters(Integer.MAX_VALUE, Integer.MAX_VALUE);
    Check.due("push", z.push(1, 2, RIGHT), BoxPushSolver.PUSHED);
    dueCounters(z, Integer.MIN_VALUE, Integer.MIN_VALUE);
  }

  private static int undoAnswer(BoxPushSolver x) {
    return x.undo() ? 1 : 0;
  }

  private static void undoNotStarted() {
    Check.sentence("6: undo is refused when the object is NOT STARTED");
    Check.refused("undo on a fresh object", () -> new BoxPushSolver(10, 10), PlayBoundaryTest::undoAnswer, 0);
    Check.refused("undo on a drawn level", PlayBoundaryTest::drawnNotStarted, PlayBoundaryTest::undoAnswer, 0);
    Check.refused("undo after a refused start", PlayBoundaryTest::startRefused, PlayBoundaryTest::undoAnswer, 0);
  }

  private static BoxPushSolver playedAndUndone() {
    BoxPushSolver x = Check.played();
    for (int i = 0; i < 8; i++) {
      Check.due("undo " + i, x.undo(), true);
    }
    return x;
  }

  private static BoxPushSolver playedAndStartedAnew() {
    BoxPushSolver x = Check.played();
    Check.draw(x, "@ $ .", "     ");
    Check.due("start anew", x.start(), 0);
    return x;
  }

  private static void undoWithoutRecords() {
    Check.sentence("6: undo is refused when no history record is held");
    Check.refused("undo at the start", level("@$ ."), PlayBoundaryTest::undoAnswer, 0);
    Check.refused("undo after all", PlayBoundaryTest::playedAndUndone, PlayBoundaryTest::undoAnswer, 0);
    Check.refused("undo after a new start", PlayBoundaryTest::playedAndStartedAnew, PlayBoundaryTest::undoAnswer, 0);
    BoxPushSolver solved = Check.started(10, 8, "@$ .");
    Check.due("solve", solved.solve(), 2);
    Check.due("undo", solved.undo(), false);
    Check.same("solution", Check.solution(solved), "[5 9 ]");
    Check.same("position", Check.position(solved), "1, at 0 moves 0 pushes 0");
    BoxPushSolver x = Check.started(10, 8, "@$ .", "    ");
    for (int dir : NO_DIRECTIONS) {
      x.move(dir);
      x.push(0, 1, dir);
    }
    x.move(UP);
    x.push(0, 1, UP);
    x.push(0, 0, RIGHT);
    x.solve();
    Check.due("refused steps leave no record", x.undo(), false);
  }

  private static void undoOfALongWalk() {
    Check.sentence("6: the pusher returns to its cell, including for a push whose walk covered several cells");
    for (int cell = 0; cell < 64; cell++) {
      if (cell == 27) {
        continue;
      }
      BoxPushSolver x = open(cell / 8, cell % 8, 3, 3);
      String before = Check.reading(x);
      for (int dir = 0; dir < 4; dir++) {
        Check.due("push", x.push(3, 3, dir), BoxPushSolver.PUSHED);
        Check.due("undo", x.undo(), true);
        Check.due("pusher is back", x.pusher(), cell);
        Check.same("undo of push(" + dir + ")", Check.reading(x), before);
      }
      Check.due("no record more", x.undo(), false);
    }
  }

  private static void undoTurnsTheCountersBack() throws ReflectiveOperationException {
    Check.sentence("6: the counters fall by 1 (Java int arithmetic)");
    BoxPushSolver x = withCounters(Integer.MAX_VALUE, Integer.MAX_VALUE);
    Check.due("push", x.push(1, 2, RIGHT), BoxPushSolver.PUSHED);
    Check.due("undo", x.undo(), true);
    dueCounters(x, Integer.MAX_VALUE, Integer.MAX_VALUE);
    Check.due("pushing move", x.move(RIGHT), BoxPushSolver.PUSHED);
    Check.due("walk", x.move(LEFT), BoxPushSolver.WALKED);
    dueCounters(x, Integer.MIN_VALUE + 1, Integer.MIN_VALUE);
    Check.due("undo of the walk", x.undo(), true);
    dueCounters(x, Integer.MIN_VALUE, Integer.MIN_VALUE);
    Check.due("undo of the push", x.undo(), true);
    dueCounters(x, Integer.MAX_VALUE, Integer.MAX_VALUE);
  }

  private static void undoOfAWalkKeepsThePushCounter() {
    Check.sentence("6: if the record moved a box, the push counter falls by 1");
    BoxPushSolver x = Check.started(10, 8, "@ $   . ", "        ");
    Check.due("walk", x.move(RIGHT), BoxPushSolver.WALKED);
    Check.due("pushing move", x.move(RIGHT), BoxPushSolver.PUSHED);
    Check.due("walk", x.move(LEFT), BoxPushSolver.WALKED);
    Check.due("push", x.push(0, 3, RIGHT), BoxPushSolver.PUSHED);
    dueCounters(x, 4, 2);
    int[] pushesLeft = {1, 1, 0, 0};
    for (int i = 0; i < 4; i++) {
      Check.due("undo", x.undo(), true);
      dueCounters(x, 3 - i, pushesLeft[i]);
    }
  }

  private static void discardedRecordsAreGone() {
    Check.sentence("6: Records discarded because the history was full cannot be reverted");
    BoxPushSolver x = Check.started(10, 8, "@$      ", "        ", "    .   ");
    for (int i = 0; i < 9; i++) {
      step(x, false, i);
    }
    Check.due("undos", Check.undoAll(x), 8);
    // The first pushing move was discarded: it stays done.
    Check.due("pusher", x.pusher(), 1);
    Check.due("box", x.boxAt(0, 2), true);
    dueCounters(x, 1, 1);
    for (int i = 0; i < 5; i++) {
      Check.due("undo is refused still", x.undo(), false);
    }
    Check.due("a new step", x.move(RIGHT), BoxPushSolver.PUSHED);
    Check.due("is the one that is reverted", Check.undoAll(x), 1);
    Check.due("pusher", x.pusher(), 1);
  }

  private static void atMostAsManyUndosAsRecords() {
    Check.sentence("6: So at most H consecutive undos succeed after any run of moves and pushes");
    for (int size = 8; size <= 64; size += 7) {
      BoxPushSolver x = Check.started(10, size, "@$      ", "        ", "    .   ");
      int held = 0;
      for (int i = 0; i < 600; i++) {
        boolean back = i % 5 == 3 || i % 97 > 80;
        if (back) {
          Check.due("undo " + i, x.undo(), held > 0);
          held = Math.max(0, held - 1);
        } else {
          boolean byPush = i % 3 == 0;
          int answer = byPush ? x.push(0, x.boxAt(0, 1) ? 1 : 2, x.boxAt(0, 1) ? RIGHT : LEFT) : x.move(i % 4);
          held = answer > 0 ? Math.min(size, held + 1) : held;
        }
        Check.due("moveCount never below 0", x.moveCount() >= 0, true);
      }
      Check.due("undos with history of " + size, Check.undoAll(x), held);
    }
  }

  private static void stepsLeaveTheRest() {
    Check.sentence("4, 5, 6: Walls, goals, the live set, the edit grid and the stored solution do not change");
    BoxPushSolver x = Check.started(40, 8, "        ", " @$  .  ", "   #    ", "        ");
    Check.due("solve", x.solve(), 3);
    String rest = restOf(x);
    for (int i = 0; i < 200; i++) {
      int answer = i % 7 == 6 ? undoAnswer(x) : x.move(i * i % 11 % 4);
      for (int cell = 0; cell < 64 && i % 5 == 0; cell++) {
        answer += x.push(cell / 8, cell % 8, i % 4);
      }
      Check.same("after step " + i + " answering " + answer, restOf(x), rest);
    }
  }

  private static String restOf(BoxPushSolver x) {
    StringBuilder text = new StringBuilder(Check.solution(x));
    for (int cell = 0; cell < 64; cell++) {
      text.append(x.live(cell / 8, cell % 8) ? 'l' : '-').append((char) x.getCell(cell / 8, cell % 8));
    }
    return text.toString();
  }
}
