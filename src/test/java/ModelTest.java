/** Promises 1 to 15: many levels and long runs of calls, each answer compared with the model's. */
public final class ModelTest {
  private static final int[] ODD = {Integer.MIN_VALUE, -1, 8, 9, Integer.MAX_VALUE};

  private static final String LEVEL_CHARACTERS = " $#*+.@";

  // A counter that is multiplied and added to: every run of this test makes the same calls.
  private static long seed = 20261115L;

  private static int below(int bound) {
    seed = seed * 6364136223846793005L + 1442695040888963407L;
    return (int) ((seed >>> 33) % bound);
  }

  public static void main(String[] args) {
    int[] solvable = new int[4];
    int[] refused = new int[4];
    int[] hopeless = new int[4];
    for (int i = 0; i < 4500; i++) {
      int boxes = 1 + i % 3;
      char[] cells = i % 2 == 0 ? level(boxes) : pulledLevel(boxes);
      int answer = solveOne(cells);
      solvable[boxes] += answer > 0 ? 1 : 0;
      refused[boxes] += answer == -6 ? 1 : 0;
      hopeless[boxes] += answer == -7 ? 1 : 0;
    }
    for (int boxes = 1; boxes <= 3; boxes++) {
      System.out.println(boxes + " boxes: " + solvable[boxes] + " solved, " + hopeless[boxes] + " without a solution, "
          + refused[boxes] + " too big");
      Check.due("enough solved levels with " + boxes + " boxes", solvable[boxes] >= 100, true);
      Check.due("enough levels without a solution with " + boxes + " boxes", hopeless[boxes] >= 100, true);
    }
    for (int i = 0; i < 400; i++) {
      playOne();
    }
    Check.end();
  }

  /** A level of walls and floor with the boxes, goals and pusher anywhere; narrow ones have few live cells. */
  private static char[] level(int boxes) {
    char[] cells = new char[64];
    int height = 2 + below(boxes == 1 ? 7 : 5);
    int width = 2 + below(boxes == 1 ? 7 : 5);
    int top = below(9 - height);
    int left = below(9 - width);
    int wallsInTen = below(6);
    for (int cell = 0; cell < 64; cell++) {
      int row = cell / 8 - top;
      int col = cell % 8 - left;
      boolean inside = row >= 0 && row < height && col >= 0 && col < width;
      cells[cell] = inside && below(10) >= wallsInTen ? ' ' : '#';
    }
    for (int i = 0; i < boxes; i++) {
      put(cells, "$", top, left, height, width);
    }
    for (int i = 0; i < boxes; i++) {
      put(cells, ".", top, left, height, width);
    }
    put(cells, "@", top, left, height, width);
    return cells;
  }

  /** A level that can be solved: few live cells, the boxes pulled away from their goals. */
  private static char[] pulledLevel(int boxes) {
    int[] mostLive = {0, 60, 8, 6};
    char[] cells = level(boxes);
    for (int attempt = 0; attempt < 300; attempt++) {
      cells = level(boxes);
      Model model = new Model(40, 8);
      for (int cell = 0; cell < 64; cell++) {
        model.setCell(cell / 8, cell % 8, cells[cell]);
      }
      if (model.start() == 0 && model.liveCount() <= mostLive[boxes] && pull(cells)) {
        return cells;
      }
    }
    return cells;
  }

  /** Puts the boxes on the goals, pulls them about, and answers whether one has left the goals. */
  private static boolean pull(char[] cells) {
    boolean[] goal = new boolean[64];
    boolean[] box = new boolean[64];
    int pusher = 0;
    for (int cell = 0; cell < 64; cell++) {
      goal[cell] = ".*+".indexOf(cells[cell]) >= 0;
      box[cell] = goal[cell];
      if (cells[cell] == '+') {
        return false;
      }
      pusher = cells[cell] == '@' ? cell : pusher;
      cells[cell] = cells[cell] == '#' ? '#' : ' ';
    }
    for (int i = 0; i < 200; i++) {
      int dir = below(4);
      int next = Model.step(pusher, dir);
      int behind = Model.step(pusher, (dir + 2) % 4);
      boolean open = next >= 0 && cells[next] != '#' && !box[next];
      if (open && behind >= 0 && box[behind] && below(4) > 0) {
        box[behind] = false;
        box[pusher] = true;
      }
      pusher = open ? next : pusher;
    }
    boolean left = false;
    for (int cell = 0; cell < 64; cell++) {
      char plain = goal[cell] ? (box[cell] ? '*' : '.') : (box[cell] ? '$' : cells[cell]);
      cells[cell] = cell == pusher ? (goal[cell] ? '+' : '@') : plain;
      left |= box[cell] && !goal[cell];
    }
    return left;
  }

  private static void put(char[] cells, String what, int top, int left, int height, int width) {
    for (int attempt = 0; attempt < 200; attempt++) {
      int cell = (top + below(height)) * 8 + left + below(width);
      char there = cells[cell];
      if (there == ' ' || (there == '#' && attempt > 20)) {
        cells[cell] = what.charAt(0);
        return;
      }
      if (there == '$' && what.equals(".")) {
        cells[cell] = '*';
        return;
      }
      if (there == '.' && what.equals("@")) {
        cells[cell] = '+';
        return;
      }
    }
  }

  private static void drawBoth(BoxPushSolver x, Model model, char[] cells) {
    for (int cell = 0; cell < 64; cell++) {
      boolean got = x.setCell(cell / 8, cell % 8, cells[cell]);
      Check.due("setCell", got, model.setCell(cell / 8, cell % 8, cells[cell]));
    }
  }

  private static int solveOne(char[] cells) {
    int pushLimit = below(3) == 0 ? 1 + below(8) : 40;
    BoxPushSolver x = new BoxPushSolver(pushLimit, 8);
    Model model = new Model(pushLimit, 8);
    String name = "level " + new String(cells) + " limit " + pushLimit;
    drawBoth(x, model, cells);
    int begun = model.start();
    Check.due("start of " + name, x.start(), begun);
    int answer = model.solve();
    Check.due("solve of " + name, x.solve(), answer);
    compare(name, x, model);
    if (answer > 0) {
      replay(name, x, answer);
    }
    return answer;
  }

  private static void replay(String name, BoxPushSolver x, int length) {
    int before = x.pushCount();
    for (int i = 0; i < length; i++) {
      int code = x.solutionPush(i);
      Check.due("push " + i + " of " + name, x.push(code / 32, (code / 4) % 8, code % 4), BoxPushSolver.PUSHED);
    }
    Check.due("solved " + name, x.solved(), true);
    Check.due("pushes of " + name, x.pushCount() - before, length);
  }

  private static void compare(String name, BoxPushSolver x, Model model) {
    for (int cell = 0; cell < 64; cell++) {
      int row = cell / 8;
      int col = cell % 8;
      Check.due("getCell " + cell + " " + name, x.getCell(row, col), model.getCell(row, col));
      Check.due("boxAt " + cell + " " + name, x.boxAt(row, col), model.boxAt(row, col));
      Check.due("reachable " + cell + " " + name, x.reachable(row, col), model.reachable(row, col));
      Check.due("live " + cell + " " + name, x.live(row, col), model.live(row, col));
    }
    Check.due("pusher " + name, x.pusher(), model.pusher());
    Check.due("solved " + name, x.solved(), model.solved());
    Check.due("moveCount " + name, x.moveCount(), model.moveCount());
    Check.due("pushCount " + name, x.pushCount(), model.pushCount());
    Check.due("solutionLength " + name, x.solutionLength(), model.solutionLength());
    for (int i = -1; i <= model.solutionLength(); i++) {
      Check.due("solutionPush " + i + " " + name, x.solutionPush(i), model.solutionPush(i));
    }
  }

  /** One object through a run of calls of every kind, wrong ones too. */
  private static void playOne() {
    int pushLimit = below(45) - 2;
    int historySize = below(70);
    BoxPushSolver x = new BoxPushSolver(pushLimit, historySize);
    Model model = new Model(pushLimit, historySize);
    if (below(10) > 0) {
      drawBoth(x, model, level(1 + below(3)));
      Check.due("start", x.start(), model.start());
    }
    int undosInTen = below(5);
    for (int i = 0; i < 150; i++) {
      int kind = below(20);
      String name = "call " + i + " of kind " + kind;
      if (kind < undosInTen * 2) {
        Check.due("undo, " + name, x.undo(), model.undo());
      } else if (kind < 17) {
        stepBoth(name, x, model);
      } else {
        changeBoth(name, x, model);
      }
      if (i % 5 == 0) {
        compare(name, x, model);
      }
      Check.due("pusher, " + name, x.pusher(), model.pusher());
      Check.due("pushCount, " + name, x.pushCount(), model.pushCount());
    }
    compare("end of a run", x, model);
  }

  private static void stepBoth(String name, BoxPushSolver x, Model model) {
    int dir = below(40) == 0 ? (below(2) == 0 ? -1 : 4) : below(4);
    if (below(3) > 0) {
      Check.due("move(" + dir + "), " + name, x.move(dir), model.move(dir));
      return;
    }
    int cell = below(64);
    for (int tries = 0; tries < 100 && !model.boxAt(cell / 8, cell % 8); tries++) {
      cell = below(64);
    }
    int row = below(40) == 0 ? ODD[below(5)] : cell / 8;
    int col = below(40) == 0 ? ODD[below(5)] : cell % 8;
    Check.due("push(" + row + ", " + col + ", " + dir + "), " + name, x.push(row, col, dir), model.push(row, col, dir));
  }

  private static void changeBoth(String name, BoxPushSolver x, Model model) {
    int kind = below(12);
    if (kind < 4) {
      Check.due("solve, " + name, x.solve(), model.solve());
    } else if (kind < 8) {
      int row = below(10) - 1;
      int col = below(10) - 1;
      int ch = below(4) == 0 ? below(130) - 1 : LEVEL_CHARACTERS.charAt(below(7));
      Check.due("setCell(" + row + ", " + col + ", " + ch + ")", x.setCell(row, col, ch), model.setCell(row, col, ch));
    } else if (kind == 8) {
      drawBoth(x, model, level(1 + below(3)));
    } else {
      Check.due("start, " + name, x.start(), model.start());
    }
  }
}
