/** What the tests share: counting wrong answers, and drawing levels. */
final class Check {
  static final int[] EXTREMES = {Integer.MIN_VALUE, Integer.MIN_VALUE + 1, -256, -64, -9, -8, -1, 8, 9, 16, 64, 256,
      Integer.MAX_VALUE - 1, Integer.MAX_VALUE};

  static final String[] FORTY_PUSHES = {"#  #@# .", "    $   ", "  ##  # ", "#  # #  ", "# ## ## ", "  #  #  ", "  #  #  ",
      "  #  #  "};

  private static int wrong = 0;
  private static int made = 0;

  private Check() {}

  static void due(String what, long got, long want) {
    made++;
    if (got != want) {
      wrong++;
      if (wrong <= 50) {
        System.out.println(what + " answered " + got + ", due is " + want);
      }
    }
  }

  static void due(String what, boolean got, boolean want) {
    due(what, got ? 1L : 0L, want ? 1L : 0L);
  }

  static void end() {
    System.out.println(made + " answers, " + wrong + " not as due");
    if (wrong != 0 || made == 0) {
      System.exit(1);
    }
  }

  /** Draws a level whose rows may be short or missing: what is not told is wall. */
  static void draw(BoxPushSolver x, String... rows) {
    for (int row = 0; row < 8; row++) {
      for (int col = 0; col < 8; col++) {
        boolean told = row < rows.length && col < rows[row].length();
        int ch = told ? rows[row].charAt(col) : '#';
        due("setCell(" + row + ", " + col + ", " + ch + ")", x.setCell(row, col, ch), true);
      }
    }
  }

  static BoxPushSolver started(int pushLimit, int historySize, String... rows) {
    BoxPushSolver x = new BoxPushSolver(pushLimit, historySize);
    draw(x, rows);
    due("start()", x.start(), BoxPushSolver.OK);
    return x;
  }

  /** Everything that can be read of the object, so that two readings can be compared. */
  static String reading(BoxPushSolver x) {
    StringBuilder text = new StringBuilder();
    for (int cell = 0; cell < 64; cell++) {
      int row = cell / 8;
      int col = cell % 8;
      text.append((char) x.getCell(row, col)).append(x.boxAt(row, col) ? 'b' : '-');
      text.append(x.reachable(row, col) ? 'r' : '-').append(x.live(row, col) ? 'l' : '-');
    }
    return text.append(' ').append(position(x)).append(' ').append(solution(x)).toString();
  }

  static String position(BoxPushSolver x) {
    StringBuilder text = new StringBuilder();
    for (int cell = 0; cell < 64; cell++) {
      text.append(x.boxAt(cell / 8, cell % 8) ? cell + "," : "");
    }
    return text.append(" at ").append(x.pusher()).append(" moves ").append(x.moveCount()).append(" pushes ")
        .append(x.pushCount()).append(x.solved() ? " solved" : "").toString();
  }

  static String solution(BoxPushSolver x) {
    StringBuilder text = new StringBuilder("[");
    for (int i = 0; i < x.solutionLength(); i++) {
      text.append(x.solutionPush(i)).append(' ');
    }
    return text.append(']').toString();
  }

  static void same(String what, String got, String want) {
    made++;
    if (!got.equals(want)) {
      wrong++;
      System.out.println(what + ":\n  got  " + got + "\n  due  " + want);
    }
  }

  /** How many undos in a row succeed. */
  static int undoAll(BoxPushSolver x) {
    int count = 0;
    while (count < 1000 && x.undo()) {
      count++;
    }
    return count;
  }
}
