/** Promises 3 to 15: every level that fits in a small room, each answer compared with the model's. */
public final class EveryLevelTest {
  private static final String LEVEL_CHARACTERS = " $#*+.@";

  // Where the room lies, how large it is, how many boxes it has, and what is drawn in it.
  private static int top;
  private static int left;
  private static int height;
  private static int width;
  private static int boxes;
  private static char[] room;

  private static int levels;
  private static BoxPushSolver x;
  private static Model model;

  public static void main(String[] args) {
    for (int count = 1; count <= 3; count++) {
      dueRoom(0, 0, 1, 6, count);
      dueRoom(2, 7, 6, 1, count);
      dueRoom(6, 4, 2, 4, count);
    }
    dueRoom(0, 5, 3, 3, 1);
    // By counting the ways to place the pusher, the boxes and the goals, with floor or wall on the other cells.
    Check.due("levels", levels, 256336);
    System.out.println(levels + " levels");
    Check.end();
  }

  private static void dueRoom(int row, int col, int rows, int cols, int count) {
    top = row;
    left = col;
    height = rows;
    width = cols;
    boxes = count;
    room = new char[rows * cols];
    // One object for all levels of a room: nothing may be left of the level before. The model is made anew.
    x = new BoxPushSolver(40, 8);
    fill(0, 0, 0, 0);
  }

  /** Tries every character for this cell and those after it, and plays the room whenever it can be started. */
  private static void fill(int cell, int pushersSoFar, int boxesSoFar, int goalsSoFar) {
    if (pushersSoFar > 1 || boxesSoFar > boxes || goalsSoFar > boxes) {
      return;
    }
    if (cell == room.length) {
      if (pushersSoFar == 1 && boxesSoFar == boxes && goalsSoFar == boxes) {
        dueLevel();
      }
      return;
    }
    for (int i = 0; i < LEVEL_CHARACTERS.length(); i++) {
      char ch = LEVEL_CHARACTERS.charAt(i);
      room[cell] = ch;
      int pusher = ch == '@' || ch == '+' ? 1 : 0;
      int box = ch == '$' || ch == '*' ? 1 : 0;
      int goal = ch == '.' || ch == '*' || ch == '+' ? 1 : 0;
      fill(cell + 1, pushersSoFar + pusher, boxesSoFar + box, goalsSoFar + goal);
    }
  }

  /** Names the level only where an answer is wrong: there are millions of answers. */
  private static void due(String call, int got, int want) {
    String name = got == want ? call : call + " in the " + height + "x" + width + " room [" + new String(room) + "]";
    Check.due(name, got, want);
  }

  private static void due(String call, boolean got, boolean want) {
    due(call, got ? 1 : 0, want ? 1 : 0);
  }

  private static void dueLevel() {
    levels++;
    model = new Model(40, 8);
    for (int i = 0; i < room.length; i++) {
      x.setCell(top + i / width, left + i % width, room[i]);
      model.setCell(top + i / width, left + i % width, room[i]);
    }
    due("start", x.start(), BoxPushSolver.OK);
    model.start();
    dueSolution();
    dueReadings();
    for (int i = 0; i < room.length; i++) {
      due("live", x.live(top + i / width, left + i % width), model.live(top + i / width, left + i % width));
    }
    for (int dir = 0; dir < 4; dir++) {
      dueStep("move", x.move(dir), model.move(dir));
      for (int i = 0; i < room.length; i++) {
        int row = top + i / width;
        int col = left + i % width;
        dueStep("push", x.push(row, col, dir), model.push(row, col, dir));
      }
    }
    dueReadings();
    due("undo with nothing left", x.undo(), false);
    // Some records stay for the next start to forget.
    x.move(levels % 4);
    x.move(levels / 4 % 4);
  }

  private static void dueStep(String call, int got, int want) {
    due(call, got, want);
    if (want > 0) {
      dueReadings();
      due("undo", x.undo(), model.undo());
    }
  }

  private static void dueSolution() {
    due("solve", x.solve(), model.solve());
    due("solutionLength", x.solutionLength(), model.solutionLength());
    for (int i = -1; i <= model.solutionLength(); i++) {
      due("solutionPush", x.solutionPush(i), model.solutionPush(i));
    }
  }

  private static void dueReadings() {
    due("pusher", x.pusher(), model.pusher());
    due("solved", x.solved(), model.solved());
    due("moveCount", x.moveCount(), model.moveCount());
    due("pushCount", x.pushCount(), model.pushCount());
    for (int i = 0; i < room.length; i++) {
      int row = top + i / width;
      int col = left + i % width;
      due("boxAt", x.boxAt(row, col), model.boxAt(row, col));
      due("reachable", x.reachable(row, col), model.reachable(row, col));
    }
  }
}
