import java.lang.reflect.Field;
import java.lang.reflect.Modifier;
import java.util.Arrays;
import java.util.function.Supplier;
import java.util.function.ToIntFunction;

/** What the tests share: counting wrong answers, and drawing levels. */
final class Check {
  static final int[] EXTREMES = {Integer.MIN_VALUE, Integer.MIN_VALUE + 1, -256, -64, -9, -8, -1, 8, 9, 16, 64, 256,
      Integer.MAX_VALUE - 1, Integer.MAX_VALUE};

  static final String[] FORTY_PUSHES = {"#  #@# .", "    $   ", "  ##  # ", "#  # #  ", "# ## ## ", "  #  #  ", "  #  #  ",
      "  #  #  "};

  private static final int MOST_LINES = 50;

  private static int wrong = 0;
  private static int made = 0;
  private static int lines = 0;
  private static String sentence = "";

  private Check() {}

  /** Names the document's sentence that the next answers belong to: a wrong one is printed with it. */
  static void sentence(String words) {
    sentence = "[" + words + "] ";
    lines = 0;
  }

  static void due(String what, long got, long want) {
    made++;
    if (got != want) {
      tellWrong(what + " answered " + got + ", due is " + want);
    }
  }

  private static void tellWrong(String line) {
    wrong++;
    lines++;
    if (lines <= MOST_LINES) {
      System.out.println(sentence + line);
    }
  }

  static void due(String what, boolean got, boolean want) {
    due(what, got ? 1L : 0L, want ? 1L : 0L);
  }

  static void end() {
    System.out.println(made + " answers, " + wrong + " not as due");
    if (wrong != 0 || made == 0) {
      System.exit(1);
    }
  }

  /** Draws a level whose rows may be short or missing: what is not told is wall. */
  static void draw(BoxPushSolver x, String... rows) {
    for (int row = 0; row < 8; row++) {
      for (int col = 0; col < 8; col++) {
        boolean told = row < rows.length && col < rows[row].length();
        int ch = told ? rows[row].charAt(col) : '#';
        due("setCell(" + row + ", " + col + ", " + ch + ")", x.setCell(row, col, ch), true);
      }
    }
  }

  static BoxPushSolver started(int pushLimit, int historySize, String... rows) {
    BoxPushSolver x = new BoxPushSolver(pushLimit, historySize);
    draw(x, rows);
    due("start()", x.start(), BoxPushSolver.OK);
    return x;
  }

  /** Everything that can be read of the object, so that two readings can be compared. */
  static String reading(BoxPushSolver x) {
    StringBuilder text = new StringBuilder();
    for (int cell = 0; cell < 64; cell++) {
      int row = cell / 8;
      int col = cell % 8;
      text.append((char) x.getCell(row, col)).append(x.boxAt(row, col) ? 'b' : '-');
      text.append(x.reachable(row, col) ? 'r' : '-').append(x.live(row, col) ? 'l' : '-');
    }
    return text.append(' ').append(position(x)).append(' ').append(solution(x)).toString();
  }

  static String position(BoxPushSolver x) {
    StringBuilder text = new StringBuilder();
    for (int cell = 0; cell < 64; cell++) {
      text.append(x.boxAt(cell / 8, cell % 8) ? cell + "," : "");
    }
    return text.append(" at ").append(x.pusher()).append(" moves ").append(x.moveCount()).append(" pushes ")
        .append(x.pushCount()).append(x.solved() ? " solved" : "").toString();
  }

  static String solution(BoxPushSolver x) {
    StringBuilder text = new StringBuilder("[");
    for (int i = 0; i < x.solutionLength(); i++) {
      text.append(x.solutionPush(i)).append(' ');
    }
    return text.append(']').toString();
  }

  static void same(String what, String got, String want) {
    made++;
    if (!got.equals(want)) {
      tellWrong(what + ":\n  got  " + got + "\n  due  " + want);
    }
  }

  /** The call is refused, and the object goes on like one that never got it. */
  static void refused(String what, Supplier<BoxPushSolver> maker, ToIntFunction<BoxPushSolver> call, int want) {
    BoxPushSolver x = maker.get();
    due(what, call.applyAsInt(x), want);
    alike(what, x, maker.get());
  }

  /** Compares all that can be read of both, now and after each undo, a solve and a start. */
  static void alike(String what, BoxPushSolver x, BoxPushSolver twin) {
    same(what, reading(x), reading(twin));
    boolean undone = true;
    for (int i = 0; i < 70 && undone; i++) {
      undone = twin.undo();
      due(what + ", undo " + i, x.undo(), undone);
      same(what + ", undo " + i, reading(x), reading(twin));
    }
    due(what + ", solve", x.solve(), twin.solve());
    same(what + ", solve", reading(x), reading(twin));
    due(what + ", start", x.start(), twin.start());
    same(what + ", start", reading(x), reading(twin));
  }

  /** All that the object holds, whatever the names of its fields. */
  static String innerState(BoxPushSolver x) throws ReflectiveOperationException {
    StringBuilder text = new StringBuilder();
    for (Field field : BoxPushSolver.class.getDeclaredFields()) {
      if (!Modifier.isStatic(field.getModifiers())) {
        field.setAccessible(true);
        text.append(field.getName()).append(Arrays.deepToString(new Object[] {field.get(x)}));
      }
    }
    return text.toString();
  }

  static int liveCount(BoxPushSolver x) {
    int count = 0;
    for (int cell = 0; cell < 64; cell++) {
      count += x.live(cell / 8, cell % 8) ? 1 : 0;
    }
    return count;
  }

  /**
   * An object in the middle of a game: its history of 8 is full and has lost records, its stored solution no longer
   * fits, and its edit grid is not the level that is played. The pusher stands at (1, 3), the box at (1, 5).
   */
  static BoxPushSolver played() {
    BoxPushSolver x = started(40, 8, "        ", "  .     ", "        ", "   ##$  ", "@       ", "        ");
    due("solve", x.solve(), 5);
    int[] walk = {1, 1, 1};
    for (int dir : walk) {
      due("walk", x.move(dir), 1);
    }
    due("push", x.push(3, 5, BoxPushSolver.UP), 2);
    due("pushing move", x.move(BoxPushSolver.UP), 2);
    due("push", x.push(1, 5, BoxPushSolver.LEFT), 2);
    due("undo", x.undo(), true);
    due("walk", x.move(BoxPushSolver.LEFT), 1);
    due("push", x.push(1, 5, BoxPushSolver.LEFT), 2);
    due("walk", x.move(BoxPushSolver.UP), 1);
    due("walk", x.move(BoxPushSolver.LEFT), 1);
    due("walk", x.move(BoxPushSolver.LEFT), 1);
    due("walk", x.move(BoxPushSolver.DOWN), 1);
    due("pushing move", x.move(BoxPushSolver.RIGHT), 2);
    due("walk", x.move(BoxPushSolver.LEFT), 1);
    x.setCell(7, 7, '@');
    x.setCell(0, 0, '*');
    x.setCell(1, 2, ' ');
    duePlayed(x);
    return x;
  }

  /** What played() is known to come to: a twin made by the same calls would not show what these calls do wrong. */
  static void duePlayed(BoxPushSolver x) {
    due("played, pusher", x.pusher(), 11);
    same("played, solution", solution(x), "[116 84 55 51 47 ]");
    same("played, position", position(x), "13, at 11 moves 13 pushes 4");
    same("played, solution again", solution(x), "[116 84 55 51 47 ]");
    due("played, edited cell", x.getCell(0, 0), '*');
  }

  /** How many undos in a row succeed. */
  static int undoAll(BoxPushSolver x) {
    int count = 0;
    while (count < 1000 && x.undo()) {
      count++;
    }
    return count;
  }
}
