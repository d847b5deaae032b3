/** Promises 1 to 3 at their boundaries: one method for each sentence that names one, with the sentence's words. */
public final class EditAndStartBoundaryTest {
  private static final int[] LEVEL_CHARACTERS = {32, 35, 36, 42, 43, 46, 64};
  private static final int RIGHT = BoxPushSolver.RIGHT;
  private static final int LEFT = BoxPushSolver.LEFT;

  public static void main(String[] args) throws ReflectiveOperationException {
    everyArgumentIsAccepted();
    pushLimitTooSmall();
    pushLimitTooLarge();
    pushLimitInRange();
    historySizeTooSmall();
    historySizeTooLarge();
    historySizeInRange();
    extremeArguments();
    limitsNeverChange();
    freshGridIsWall();
    unchangedCellsStayWall();
    nothingToReadUntilStarted();
    setCellRowOutside();
    setCellColumnOutside();
    setCellOfNoLevelCharacter();
    setCellReplaces();
    setCellLeavesThePlayPosition();
    editGridTakesAnything();
    getCellOutside();
    pushersNotOne();
    boxesBelowOneOrAboveThree();
    goalsNotAsManyAsBoxes();
    startLooksInOrder();
    startedOrNotMakesNoDifference();
    refusedStartKeepsThePlayPosition();
    refusedStartStaysNotStarted();
    startBeginsEmpty();
    startForgetsEarlierPlay();
    startLeavesTheEditGrid();
    editsWaitForTheNextStart();
    startOfASolvedLevel();
    Check.end();
  }

  /** A row whose box needs one push more than there are cells between it and its goal. */
  private static String row(int between) {
    return "@$" + " ".repeat(between) + ".";
  }

  private static void walkToAndFro(BoxPushSolver x, int steps) {
    for (int i = 0; i < steps; i++) {
      Check.due("walk " + i, x.move(i % 2 == 0 ? RIGHT : LEFT), BoxPushSolver.WALKED);
    }
  }

  private static void historyHolds(int given, int kept) {
    for (int steps = kept - 1; steps <= kept + 2; steps++) {
      BoxPushSolver x = Check.started(1, given, "@ #$.");
      walkToAndFro(x, steps);
      Check.due("undos after " + steps + " steps, history of " + given, Check.undoAll(x), Math.min(steps, kept));
    }
  }

  private static void everyArgumentIsAccepted() {
    Check.sentence("1: accepts every int value of both arguments");
    for (int shift = 0; shift < 32; shift++) {
      for (int add = -1; add <= 1; add++) {
        int value = (1 << shift) + add;
        Check.due("solve, limit " + value, Check.started(value, 8, row(0)).solve(), 1);
        Check.due("solve, history " + value, Check.started(1, value, row(0)).solve(), 1);
        Check.due("solve, both " + value, Check.started(-value, value, row(0)).solve(), 1);
      }
    }
  }

  private static void pushLimitTooSmall() {
    Check.sentence("1: pushLimit values below 1 become 1");
    int[] small = {0, -1, -2, -39, -40, -41, -1000};
    for (int limit : small) {
      Check.due("one push, limit " + limit, Check.started(limit, 8, row(0)).solve(), 1);
      Check.due("two pushes, limit " + limit, Check.started(limit, 8, row(1)).solve(), BoxPushSolver.ERR_NONE);
    }
  }

  private static void pushLimitTooLarge() throws ReflectiveOperationException {
    Check.sentence("1: pushLimit values above 40 become 40");
    int[] large = {41, 42, 64, 80, 256, 1000};
    String forty = Check.innerState(new BoxPushSolver(40, 8));
    for (int limit : large) {
      Check.due("forty pushes, limit " + limit, Check.started(limit, 8, Check.FORTY_PUSHES).solve(), 40);
      // No level is known whose least solution has more than 40 pushes, so the whole object is compared.
      Check.same("limit " + limit, Check.innerState(new BoxPushSolver(limit, 8)), forty);
    }
  }

  private static void pushLimitInRange() {
    Check.sentence("1: P is the longest solution solve() may report");
    BoxPushSolver guide = Check.started(40, 8, Check.FORTY_PUSHES);
    Check.due("forty pushes", guide.solve(), 40);
    for (int limit = 1; limit <= 40; limit++) {
      BoxPushSolver x = Check.started(limit, 8, Check.FORTY_PUSHES);
      for (int left = 40; left > 0; left--) {
        int want = left > limit ? BoxPushSolver.ERR_NONE : left;
        Check.due(left + " pushes left, limit " + limit, x.solve(), want);
        int code = guide.solutionPush(40 - left);
        Check.due("push", x.push(code / 32, code / 4 % 8, code % 4), BoxPushSolver.PUSHED);
      }
    }
  }

  private static void historySizeTooSmall() {
    Check.sentence("1: historySize values below 8 become 8");
    int[] small = {7, 6, 1, 0, -1, -8, -9, -64, -1000};
    for (int size : small) {
      historyHolds(size, 8);
    }
  }

  private static void historySizeTooLarge() {
    Check.sentence("1: historySize values above 64 become 64");
    int[] large = {65, 66, 127, 128, 256, 1000};
    for (int size : large) {
      historyHolds(size, 64);
    }
  }

  private static void historySizeInRange() {
    Check.sentence("1: H is the number of undo records kept");
    for (int size = 8; size <= 64; size++) {
      historyHolds(size, size);
    }
  }

  private static void extremeArguments() throws ReflectiveOperationException {
    Check.sentence("1: The extreme ints clamp like any other out-of-range value");
    int least = Integer.MIN_VALUE;
    int greatest = Integer.MAX_VALUE;
    Check.due("least limit, one push", Check.started(least, 8, row(0)).solve(), 1);
    Check.due("least limit, two pushes", Check.started(least, 8, row(1)).solve(), BoxPushSolver.ERR_NONE);
    Check.due("greatest limit", Check.started(greatest, 8, Check.FORTY_PUSHES).solve(), 40);
    historyHolds(least, 8);
    historyHolds(greatest, 64);
    String low = Check.innerState(new BoxPushSolver(1, 8));
    String high = Check.innerState(new BoxPushSolver(40, 64));
    Check.same("both least", Check.innerState(new BoxPushSolver(least, least)), low);
    Check.same("both least but one", Check.innerState(new BoxPushSolver(least + 1, least + 1)), low);
    Check.same("both greatest", Check.innerState(new BoxPushSolver(greatest, greatest)), high);
    Check.same("both greatest but one", Check.innerState(new BoxPushSolver(greatest - 1, greatest - 1)), high);
  }

  private static void limitsNeverChange() {
    Check.sentence("1: P and H never change afterwards");
    BoxPushSolver x = new BoxPushSolver(3, 10);
    for (int round = 0; round < 4; round++) {
      Check.draw(x, row(2), "########", "    ");
      Check.due("start", x.start(), 0);
      Check.due("three pushes", x.solve(), 3);
      Check.draw(x, Check.FORTY_PUSHES);
      Check.due("start", x.start(), 0);
      Check.due("forty pushes", x.solve(), BoxPushSolver.ERR_NONE);
      Check.draw(x, row(3));
      Check.due("start", x.start(), 0);
      Check.due("four pushes", x.solve(), BoxPushSolver.ERR_NONE);
      Check.draw(x, "@ #$.");
      Check.due("start", x.start(), 0);
      walkToAndFro(x, 30);
      Check.due("undos", Check.undoAll(x), 10);
      walkToAndFro(x, 10);
      Check.due("undos again", Check.undoAll(x), 10);
      Check.draw(x, "");
      Check.due("refused start", x.start(), BoxPushSolver.ERR_PUSHER);
    }
  }

  private static void freshGridIsWall() {
    Check.sentence("1: A fresh object is NOT STARTED and every one of its 64 edit grid cells holds CH_WALL");
    int[] some = {Integer.MIN_VALUE, 0, 8, 35, 64, Integer.MAX_VALUE};
    for (int argument : some) {
      BoxPushSolver x = new BoxPushSolver(argument, argument);
      for (int cell = 0; cell < 64; cell++) {
        Check.due("getCell " + cell, x.getCell(cell / 8, cell % 8), 35);
      }
      Check.due("move", x.move(0), BoxPushSolver.ERR_NOT_STARTED);
      Check.due("push", x.push(0, 0, 0), BoxPushSolver.ERR_NOT_STARTED);
      Check.due("solve", x.solve(), BoxPushSolver.ERR_NOT_STARTED);
    }
  }

  private static void unchangedCellsStayWall() {
    Check.sentence("1: getCell answers 35 for every in-range cell that no successful setCell has changed yet");
    BoxPushSolver x = new BoxPushSolver(10, 10);
    Check.due("refused start", x.start(), BoxPushSolver.ERR_PUSHER);
    onlyTheseAreChanged(x, 0);
    x.setCell(4, 4, 33);
    x.setCell(-1, 12, 32);
    x.setCell(8, 0, 32);
    onlyTheseAreChanged(x, 0);
    x.setCell(0, 0, '@');
    x.setCell(0, 1, '$');
    x.setCell(0, 2, '.');
    onlyTheseAreChanged(x, 3);
    Check.due("start", x.start(), 0);
    onlyTheseAreChanged(x, 3);
    Check.due("pushing move", x.move(RIGHT), 2);
    onlyTheseAreChanged(x, 3);
    Check.due("solve", x.solve(), 0);
    Check.due("undo", x.undo(), true);
    onlyTheseAreChanged(x, 3);
  }

  private static void onlyTheseAreChanged(BoxPushSolver x, int count) {
    for (int cell = 0; cell < 64; cell++) {
      Check.due("getCell " + cell, x.getCell(cell / 8, cell % 8), cell < count ? "@$.".charAt(cell) : 35);
    }
  }

  private static void nothingToReadUntilStarted() {
    Check.sentence("1: Until a successful start(): -1, 0 and false");
    String[][] drawn = {{""}, {"$."}, {"@@$."}, {"@."}, {"@****"}, {"@$"}, {"@$.."}, {"@$."}};
    for (int i = 0; i < drawn.length; i++) {
      BoxPushSolver x = new BoxPushSolver(10, 10);
      readsNotStarted(x);
      Check.draw(x, drawn[i]);
      readsNotStarted(x);
      if (i < drawn.length - 1) {
        Check.due("start is refused", x.start() < 0, true);
        readsNotStarted(x);
      }
      x.move(RIGHT);
      x.push(0, 1, RIGHT);
      x.undo();
      x.solve();
      readsNotStarted(x);
    }
  }

  private static void readsNotStarted(BoxPushSolver x) {
    Check.due("pusher", x.pusher(), -1);
    Check.due("moveCount", x.moveCount(), 0);
    Check.due("pushCount", x.pushCount(), 0);
    Check.due("solutionLength", x.solutionLength(), 0);
    Check.due("solved", x.solved(), false);
    for (int cell = 0; cell < 64; cell++) {
      Check.due("boxAt " + cell, x.boxAt(cell / 8, cell % 8), false);
      Check.due("reachable " + cell, x.reachable(cell / 8, cell % 8), false);
      Check.due("live " + cell, x.live(cell / 8, cell % 8), false);
    }
  }

  private static void setCellRefused(int row, int col, int ch) {
    String what = "setCell(" + row + ", " + col + ", " + ch + ")";
    Check.refused(what, () -> new BoxPushSolver(10, 10), x -> x.setCell(row, col, ch) ? 1 : 0, 0);
    Check.refused(what + " in play", Check::played, x -> x.setCell(row, col, ch) ? 1 : 0, 0);
  }

  private static void setCellRowOutside() {
    Check.sentence("2: setCell is refused when row is outside 0..7 (negative values included)");
    for (int row : Check.EXTREMES) {
      for (int col = 0; col < 8; col += 7) {
        setCellRefused(row, col, 32);
      }
      // These would come to a cell of the grid by row*8+col.
      setCellRefused(row, -8 * row, 32);
      setCellRefused(row, 63 - 8 * row, 32);
    }
  }

  private static void setCellColumnOutside() {
    Check.sentence("2: setCell is refused when col is outside 0..7 (negative values included)");
    for (int col : Check.EXTREMES) {
      for (int row = 0; row < 8; row++) {
        setCellRefused(row, col, 32);
      }
    }
  }

  private static void setCellOfNoLevelCharacter() {
    Check.sentence("2: setCell is refused when ch is not one of the seven level characters");
    BoxPushSolver x = Check.played();
    for (int ch = -70000; ch <= 70000; ch++) {
      if (!isLevelCharacter(ch)) {
        Check.due("setCell of " + ch, x.setCell(1, 1, ch), false);
      }
    }
    Check.alike("after all of them", x, Check.played());
    for (int ch : LEVEL_CHARACTERS) {
      int[] near = {ch - 1, ch + 1, -ch, ~ch, ch + 128, ch + 256, ch + 65536, ch | Integer.MIN_VALUE};
      for (int other : near) {
        if (!isLevelCharacter(other)) {
          setCellRefused(3, 4, other);
        }
      }
    }
    int[] far = {Integer.MIN_VALUE, Integer.MIN_VALUE + 1, -1, 0, Integer.MAX_VALUE - 1, Integer.MAX_VALUE};
    for (int ch : far) {
      setCellRefused(0, 0, ch);
      setCellRefused(7, 7, ch);
      setCellRefused(-1, 8, ch);
    }
  }

  private static boolean isLevelCharacter(int ch) {
    for (int known : LEVEL_CHARACTERS) {
      if (ch == known) {
        return true;
      }
    }
    return false;
  }

  private static void setCellReplaces() {
    Check.sentence("2: Otherwise it stores ch, replacing what was there, and answers true");
    for (int cell = 0; cell < 64; cell++) {
      BoxPushSolver x = new BoxPushSolver(10, 10);
      for (int first : LEVEL_CHARACTERS) {
        for (int second : LEVEL_CHARACTERS) {
          Check.due("setCell", x.setCell(cell / 8, cell % 8, first), true);
          Check.due("setCell again", x.setCell(cell / 8, cell % 8, second), true);
          Check.due("getCell " + cell, x.getCell(cell / 8, cell % 8), second);
        }
      }
      for (int other = 0; other < 64; other++) {
        Check.due("getCell " + other, x.getCell(other / 8, other % 8), other == cell ? 64 : 35);
      }
    }
  }

  private static void setCellLeavesThePlayPosition() {
    Check.sentence("2: setCell never touches the play position");
    for (int ch : LEVEL_CHARACTERS) {
      BoxPushSolver x = Check.started(10, 8, "      ", "@$  . ", "      ");
      Check.due("solve", x.solve(), 3);
      Check.due("pushing move", x.move(RIGHT), BoxPushSolver.PUSHED);
      Check.due("walk", x.move(LEFT), BoxPushSolver.WALKED);
      String before = playReading(x);
      for (int cell = 0; cell < 64; cell++) {
        Check.due("setCell", x.setCell(cell / 8, cell % 8, ch), true);
        Check.same("cell " + cell + " set to " + ch, playReading(x), before);
      }
      Check.same("stored solution", Check.solution(x), "[37 41 45 ]");
      Check.due("pusher", x.pusher(), 8);
      Check.due("solve", x.solve(), 2);
      Check.due("push", x.push(1, 2, RIGHT), BoxPushSolver.PUSHED);
      Check.due("push onto the goal", x.push(1, 3, RIGHT), BoxPushSolver.PUSHED);
      Check.due("solved", x.solved(), true);
      Check.due("undos", Check.undoAll(x), 4);
    }
  }

  /** All that can be read of the play position, and nothing of the edit grid. */
  private static String playReading(BoxPushSolver x) {
    StringBuilder text = new StringBuilder(Check.position(x) + Check.solution(x));
    for (int cell = 0; cell < 64; cell++) {
      text.append(x.live(cell / 8, cell % 8) ? 'l' : '-').append(x.reachable(cell / 8, cell % 8) ? 'r' : '-');
    }
    return text.toString();
  }

  private static void editGridTakesAnything() {
    Check.sentence("2: Any number of cells may hold pusher or box characters at once");
    for (int ch : LEVEL_CHARACTERS) {
      BoxPushSolver x = new BoxPushSolver(10, 10);
      for (int cell = 0; cell < 64; cell++) {
        Check.due("setCell " + cell + " to " + ch, x.setCell(cell / 8, cell % 8, ch), true);
      }
      for (int cell = 0; cell < 64; cell++) {
        Check.due("getCell " + cell, x.getCell(cell / 8, cell % 8), ch);
      }
    }
  }

  private static void getCellOutside() {
    Check.sentence("2: getCell answers -1 when row or col is outside 0..7");
    BoxPushSolver x = Check.played();
    for (int bad : Check.EXTREMES) {
      for (int good = 0; good < 8; good++) {
        Check.due("getCell(" + bad + ", " + good + ")", x.getCell(bad, good), -1);
        Check.due("getCell(" + good + ", " + bad + ")", x.getCell(good, bad), -1);
      }
      for (int other : Check.EXTREMES) {
        Check.due("getCell(" + bad + ", " + other + ")", x.getCell(bad, other), -1);
      }
      Check.due("getCell to cell 0", x.getCell(bad, -8 * bad), -1);
    }
    Check.duePlayed(x);
    Check.alike("getCell changes nothing", x, Check.played());
  }

  private static void startAnswers(int want, String... rows) {
    BoxPushSolver x = new BoxPushSolver(10, 10);
    Check.draw(x, rows);
    Check.due("start of " + String.join("/", rows), x.start(), want);
    Check.due("pusher tells whether it started", x.pusher() >= 0, want == 0);
  }

  private static void pushersNotOne() {
    Check.sentence("3: If the number of pushers is not exactly 1, it answers ERR_PUSHER");
    startAnswers(-8, "$.");
    startAnswers(0, "@$.");
    startAnswers(0, "+$");
    startAnswers(-8, "@@$.");
    startAnswers(-8, "++$$");
    startAnswers(-8, "@+$");
    startAnswers(-8, "+@$");
    startAnswers(-8, "@@@$.");
    // The first and the last cell of the grid are counted too.
    String[] corners = {"@$.", "", "", "", "", "", "", "#######@"};
    startAnswers(-8, corners);
    corners[0] = "#$.";
    startAnswers(0, corners);
    BoxPushSolver full = new BoxPushSolver(10, 10);
    for (int cell = 0; cell < 62; cell++) {
      full.setCell(cell / 8, cell % 8, '@');
    }
    full.setCell(7, 6, '$');
    full.setCell(7, 7, '.');
    Check.due("62 pushers", full.start(), -8);
  }

  private static void boxesBelowOneOrAboveThree() {
    Check.sentence("3: If B is below 1 or above 3, it answers ERR_BOXES");
    startAnswers(-9, "@");
    startAnswers(-9, "@.");
    startAnswers(-9, "+");
    startAnswers(0, "@$.");
    startAnswers(0, "@*");
    startAnswers(0, "@$$..");
    startAnswers(0, "@$$$", "...");
    startAnswers(0, "@***");
    startAnswers(0, "@*$$..");
    startAnswers(-9, "@$$$$", "....");
    startAnswers(-9, "@****");
    startAnswers(-9, "@***$.");
    startAnswers(-9, "@$$$$$", ".....");
    String[] corners = {"$**@.", "", "", "", "", "", "", "#######$"};
    startAnswers(-9, corners);
    corners[0] = " **@.";
    startAnswers(0, corners);
    BoxPushSolver full = new BoxPushSolver(10, 10);
    for (int cell = 0; cell < 64; cell++) {
      full.setCell(cell / 8, cell % 8, '*');
    }
    full.setCell(3, 3, '@');
    Check.due("63 boxes", full.start(), -9);
  }

  private static void goalsNotAsManyAsBoxes() {
    Check.sentence("3: If the number of goals is not B, it answers ERR_GOALS");
    startAnswers(-10, "@$");
    startAnswers(0, "@$.");
    startAnswers(-10, "@$..");
    startAnswers(-10, "@*.");
    startAnswers(-10, "+*");
    startAnswers(-10, "+$.");
    startAnswers(0, "+$");
    startAnswers(-10, "@$$.");
    startAnswers(0, "@$$..");
    startAnswers(-10, "@$$...");
    startAnswers(-10, "@*$");
    startAnswers(-10, "@$$$", "..");
    startAnswers(0, "@$$$", "...");
    startAnswers(-10, "@$$$", "....");
    startAnswers(-10, "+***");
    startAnswers(0, "+$**");
    String[] corners = {".@$", "", "", "", "", "", "", "#######."};
    startAnswers(-10, corners);
    corners[0] = "#@$";
    startAnswers(0, corners);
  }

  private static void startLooksInOrder() {
    Check.sentence("3: start considers these conditions in this order");
    startAnswers(-8, "");
    startAnswers(-8, "@@");
    startAnswers(-8, "$$$$");
    startAnswers(-8, "++$$$$$");
    startAnswers(-8, "$");
    startAnswers(-8, "@@$");
    startAnswers(-8, ".");
    startAnswers(-9, "+");
    startAnswers(-9, "@.");
    startAnswers(-9, "@$$$$");
    startAnswers(-9, "@****.");
  }

  private static void startedOrNotMakesNoDifference() {
    Check.sentence("3: Whether or not a play position already exists");
    String[] levels = {"$.", "@@$.", "@.", "@****", "@$", "@$..", "@$.", "+$**"};
    int[] answers = {-8, -8, -9, -9, -10, -10, 0, 0};
    BoxPushSolver x = Check.started(10, 10, "@*");
    for (int first = 0; first < levels.length; first++) {
      for (int second = 0; second < levels.length; second++) {
        Check.draw(x, levels[first]);
        Check.due("start of " + levels[first], x.start(), answers[first]);
        Check.draw(x, levels[second]);
        Check.due("start of " + levels[second], x.start(), answers[second]);
      }
    }
  }

  private static BoxPushSolver playedThenDrawn(String level) {
    BoxPushSolver x = Check.played();
    Check.draw(x, level);
    return x;
  }

  private static void refusedStartKeepsThePlayPosition() {
    Check.sentence("3: A refusal keeps any earlier play position exactly as it was");
    String[] levels = {"$.", "@@$.", "@.", "@****", "@$", "@$.."};
    int[] answers = {-8, -8, -9, -9, -10, -10};
    for (int i = 0; i < levels.length; i++) {
      String level = levels[i];
      Check.refused("start of " + level, () -> playedThenDrawn(level), x -> x.start(), answers[i]);
      BoxPushSolver x = playedThenDrawn(level);
      Check.due("start", x.start(), answers[i]);
      BoxPushSolver twin = Check.played();
      Check.same("position", Check.position(x), Check.position(twin));
      Check.same("solution", Check.solution(x), Check.solution(twin));
      Check.due("step", x.move(RIGHT), twin.move(RIGHT));
      Check.due("undos", Check.undoAll(x), 8);
      Check.due("solve", x.solve(), twin.solve());
    }
  }

  private static BoxPushSolver drawn(String level) {
    BoxPushSolver x = new BoxPushSolver(10, 10);
    Check.draw(x, level);
    return x;
  }

  private static void refusedStartStaysNotStarted() {
    Check.sentence("3: an object that was NOT STARTED stays NOT STARTED");
    String[] levels = {"$.", "@@$.", "@.", "@****", "@$", "@$.."};
    int[] answers = {-8, -8, -9, -9, -10, -10};
    for (int i = 0; i < levels.length; i++) {
      String level = levels[i];
      Check.refused("start of " + level, () -> drawn(level), x -> x.start(), answers[i]);
      BoxPushSolver x = drawn(level);
      Check.due("start", x.start(), answers[i]);
      readsNotStarted(x);
      Check.due("move", x.move(RIGHT), BoxPushSolver.ERR_NOT_STARTED);
      Check.due("push", x.push(0, 1, RIGHT), BoxPushSolver.ERR_NOT_STARTED);
      Check.due("solve", x.solve(), BoxPushSolver.ERR_NOT_STARTED);
      Check.due("undo", x.undo(), false);
    }
  }

  private static void startBeginsEmpty() {
    Check.sentence("3: both counters 0, history empty, stored solution empty");
    BoxPushSolver x = Check.played();
    Check.draw(x, "@$ .");
    for (int round = 0; round < 3; round++) {
      Check.due("start", x.start(), 0);
      Check.due("moveCount", x.moveCount(), 0);
      Check.due("pushCount", x.pushCount(), 0);
      Check.due("solutionLength", x.solutionLength(), 0);
      Check.due("solutionPush", x.solutionPush(0), -1);
      Check.due("undo", x.undo(), false);
      Check.due("pusher", x.pusher(), 0);
      Check.due("pushing move", x.move(RIGHT), 2);
      Check.due("walk", x.move(LEFT), 1);
      Check.due("solve", x.solve(), 1);
    }
  }

  private static void startForgetsEarlierPlay() {
    Check.sentence("3: A successful start() replaces any earlier play position completely");
    String[][] levels = {{"@$ ."}, {"#  @", " *$.", "    "}, {"@***"}, Check.FORTY_PUSHES};
    for (String[] level : levels) {
      BoxPushSolver x = Check.played();
      Check.draw(x, level);
      Check.due("start", x.start(), 0);
      BoxPushSolver fresh = Check.started(40, 8, level);
      Check.same("reading", Check.reading(x), Check.reading(fresh));
      for (int dir = 0; dir < 4; dir++) {
        Check.due("step", x.move(dir), fresh.move(dir));
      }
      Check.alike("like a new object", x, fresh);
    }
  }

  private static void startLeavesTheEditGrid() {
    Check.sentence("3: The edit grid is not changed by start()");
    String[][] levels = {{""}, {"@@"}, {"@****"}, {"@$.."}, {" @$*. #"}, {"+$ #"}};
    for (String[] level : levels) {
      BoxPushSolver x = new BoxPushSolver(10, 10);
      for (int round = 0; round < 3; round++) {
        Check.draw(x, level);
        x.start();
        for (int cell = 0; cell < 64; cell++) {
          int want = cell < level[0].length() ? level[0].charAt(cell) : '#';
          Check.due("getCell " + cell, x.getCell(cell / 8, cell % 8), want);
        }
      }
    }
  }

  private static void editsWaitForTheNextStart() {
    Check.sentence("3: Later edits do not affect the play position until the next successful start()");
    BoxPushSolver x = Check.started(10, 10, "@$ .");
    x.setCell(0, 2, '#');
    x.setCell(0, 3, '@');
    Check.due("refused start", x.start(), BoxPushSolver.ERR_PUSHER);
    Check.due("still live", x.live(0, 2), true);
    Check.due("still one push behind the other", x.solve(), 2);
    Check.due("push over the later wall", x.move(RIGHT), 2);
    Check.due("undo", x.undo(), true);
    x.setCell(0, 3, '.');
    Check.due("start", x.start(), 0);
    Check.due("not live now", x.live(0, 2), false);
    Check.due("wall there now", x.move(RIGHT), BoxPushSolver.ERR_BLOCKED);
  }

  private static void startOfASolvedLevel() {
    Check.sentence("3: The new position may already be solved");
    String[] levels = {"@*", "@**", "@***"};
    for (String level : levels) {
      BoxPushSolver x = Check.started(10, 10, level);
      Check.due("solved", x.solved(), true);
      Check.due("solve", x.solve(), 0);
    }
  }
}
