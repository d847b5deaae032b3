/** The warehouse box-pushing puzzle on an 8x8 grid, with a solver for the least number of pushes. */
public final class BoxPushSolver {
  public static final int UP = 0;
  public static final int RIGHT = 1;
  public static final int DOWN = 2;
  public static final int LEFT = 3;

  public static final int CH_FLOOR = 32;
  public static final int CH_BOX = 36;
  public static final int CH_WALL = 35;
  public static final int CH_BOX_ON_GOAL = 42;
  public static final int CH_PUSHER_ON_GOAL = 43;
  public static final int CH_GOAL = 46;
  public static final int CH_PUSHER = 64;

  public static final int OK = 0;
  public static final int WALKED = 1;
  public static final int PUSHED = 2;
  public static final int ERR_NOT_STARTED = -1;
  public static final int ERR_ARG = -2;
  public static final int ERR_BLOCKED = -3;
  public static final int ERR_NO_BOX = -4;
  public static final int ERR_UNREACHABLE = -5;
  public static final int ERR_TOO_BIG = -6;
  public static final int ERR_NONE = -7;
  public static final int ERR_PUSHER = -8;
  public static final int ERR_BOXES = -9;
  public static final int ERR_GOALS = -10;

  private static final int SIDE = 8;
  private static final int CELLS = 64;
  private static final int DIRECTIONS = 4;
  private static final int PUSH_CODES = 256;
  private static final int OUTSIDE = -1;

  private static final int MIN_PUSH_LIMIT = 1;
  private static final int MAX_PUSH_LIMIT = 40;
  private static final int MIN_HISTORY = 8;
  private static final int MAX_HISTORY = 64;

  private static final int MIN_BOXES = 1;
  private static final int MAX_BOXES = 3;
  private static final int MAX_LIVE_ONE_BOX = 60;
  private static final int MAX_LIVE_TWO_BOXES = 8;
  private static final int MAX_LIVE_THREE_BOXES = 6;

  // A search node is a set of boxes on live cells and a pusher cell, each pair met at most once.
  // Pairs: 60 * 64 with one box, 28 * 64 with two, 20 * 64 with three; the greatest is 3840.
  private static final int MAX_NODES = 3840;
  // A node's number is written with one digit of base L for each box: at most 60, 8 * 8 or 6 * 6 * 6
  // box numbers, each with 64 pusher cells; the greatest is 216 * 64.
  private static final int NODE_NUMBERS = 13824;
  private static final int NO_NODE = -1;
  private static final int NO_CODE = -1;

  // A set of cells is a long: bit r*8+c stands for the cell (r, c).
  private static final long FIRST_COLUMN = 0x0101010101010101L;
  private static final long LAST_COLUMN = 0x8080808080808080L;

  private final int pushLimit;
  private final int historyLimit;

  private final int[] editGrid = new int[CELLS];

  private boolean started;
  private long walls;
  private long goals;
  private long boxes;
  private long liveCells;
  private int liveTotal;
  private int boxTotal;
  private int pusherCell;
  private int moves;
  private int pushes;
  private final int[] liveRank = new int[CELLS];

  // A record holds the boxes and the pusher as they were before the step; the ring overwrites the oldest.
  private final long[] historyBoxes = new long[MAX_HISTORY];
  private final int[] historyPusher = new int[MAX_HISTORY];
  private int historyNext;
  private int historyTotal;

  private final int[] storedPushes = new int[MAX_PUSH_LIMIT];
  private int storedTotal;

  private final long[] nodeBoxes = new long[MAX_NODES];
  private final int[] nodePusher = new int[MAX_NODES];
  private final int[] nodeParent = new int[MAX_NODES];
  private final int[] nodeCode = new int[MAX_NODES];
  private final int[] nodeDepth = new int[MAX_NODES];
  private final boolean[] nodeMet = new boolean[NODE_NUMBERS];
  private int nodeTotal;

  public BoxPushSolver(int pushLimit, int historySize) {
    this.pushLimit = clamp(pushLimit, MIN_PUSH_LIMIT, MAX_PUSH_LIMIT);
    this.historyLimit = clamp(historySize, MIN_HISTORY, MAX_HISTORY);
    for (int cell = 0; cell < CELLS; cell++) {
      editGrid[cell] = CH_WALL;
    }
  }

  public boolean setCell(int row, int col, int ch) {
    if (!inGrid(row, col) || !isLevelCharacter(ch)) {
      return false;
    }
    editGrid[row * SIDE + col] = ch;
    return true;
  }

  public int getCell(int row, int col) {
    if (!inGrid(row, col)) {
      return -1;
    }
    return editGrid[row * SIDE + col];
  }

  public int start() {
    int pusherCount = 0;
    int boxCount = 0;
    int goalCount = 0;
    for (int cell = 0; cell < CELLS; cell++) {
      int ch = editGrid[cell];
      pusherCount += isPusherCharacter(ch) ? 1 : 0;
      boxCount += isBoxCharacter(ch) ? 1 : 0;
      goalCount += isGoalCharacter(ch) ? 1 : 0;
    }
    if (pusherCount != 1) {
      return ERR_PUSHER;
    }
    if (boxCount < MIN_BOXES || boxCount > MAX_BOXES) {
      return ERR_BOXES;
    }
    if (goalCount != boxCount) {
      return ERR_GOALS;
    }
    boxTotal = boxCount;
    copyEditGrid();
    findLiveCells();
    rankLiveCells();
    moves = 0;
    pushes = 0;
    historyNext = 0;
    historyTotal = 0;
    storedTotal = 0;
    started = true;
    return OK;
  }

  public int move(int dir) {
    if (!started) {
      return ERR_NOT_STARTED;
    }
    if (!isDirection(dir)) {
      return ERR_ARG;
    }
    int target = neighbour(pusherCell, dir);
    if (target == OUTSIDE || contains(walls, target)) {
      return ERR_BLOCKED;
    }
    if (!contains(boxes, target)) {
      addRecord();
      pusherCell = target;
      moves++;
      return WALKED;
    }
    int ahead = neighbour(target, dir);
    if (!isFree(ahead, boxes)) {
      return ERR_BLOCKED;
    }
    pushBox(target, ahead);
    return PUSHED;
  }

  public int push(int row, int col, int dir) {
    if (!started) {
      return ERR_NOT_STARTED;
    }
    if (!inGrid(row, col) || !isDirection(dir)) {
      return ERR_ARG;
    }
    int box = row * SIDE + col;
    if (!contains(boxes, box)) {
      return ERR_NO_BOX;
    }
    int ahead = neighbour(box, dir);
    int behind = neighbourBehind(box, dir);
    if (!isFree(ahead, boxes) || !isFree(behind, boxes)) {
      return ERR_BLOCKED;
    }
    long area = reachableArea(pusherCell, boxes);
    if (!contains(area, behind)) {
      return ERR_UNREACHABLE;
    }
    pushBox(box, ahead);
    return PUSHED;
  }

  public boolean undo() {
    if (!started || historyTotal == 0) {
      return false;
    }
    historyNext = historyNext == 0 ? historyLimit - 1 : historyNext - 1;
    historyTotal--;
    // A step that pushes always changes the set of boxes, a walk never does.
    if (boxes != historyBoxes[historyNext]) {
      pushes--;
    }
    moves--;
    boxes = historyBoxes[historyNext];
    pusherCell = historyPusher[historyNext];
    return true;
  }

  public int pusher() {
    return started ? pusherCell : -1;
  }

  public boolean boxAt(int row, int col) {
    return started && inGrid(row, col) && contains(boxes, row * SIDE + col);
  }

  public boolean reachable(int row, int col) {
    if (!started || !inGrid(row, col)) {
      return false;
    }
    long area = reachableArea(pusherCell, boxes);
    return contains(area, row * SIDE + col);
  }

  public boolean live(int row, int col) {
    return started && inGrid(row, col) && contains(liveCells, row * SIDE + col);
  }

  public boolean solved() {
    return started && allOnGoals(boxes);
  }

  public int moveCount() {
    return moves;
  }

  public int pushCount() {
    return pushes;
  }

  public int solve() {
    if (!started) {
      return ERR_NOT_STARTED;
    }
    if (allOnGoals(boxes)) {
      storedTotal = 0;
      return 0;
    }
    if (!isWithinSizeLimit()) {
      return ERR_TOO_BIG;
    }
    int node = findSolvingNode();
    if (node == NO_NODE) {
      storedTotal = 0;
      return ERR_NONE;
    }
    storePushesTo(node);
    return storedTotal;
  }

  public int solutionLength() {
    return storedTotal;
  }

  public int solutionPush(int i) {
    if (i < 0 || i >= storedTotal) {
      return -1;
    }
    return storedPushes[i];
  }

  private static int clamp(int value, int low, int high) {
    if (value < low) {
      return low;
    }
    return value > high ? high : value;
  }

  private static boolean inGrid(int row, int col) {
    return row >= 0 && row < SIDE && col >= 0 && col < SIDE;
  }

  private static boolean isDirection(int dir) {
    return dir >= 0 && dir < DIRECTIONS;
  }

  private static boolean isPusherCharacter(int ch) {
    return ch == CH_PUSHER || ch == CH_PUSHER_ON_GOAL;
  }

  private static boolean isBoxCharacter(int ch) {
    return ch == CH_BOX || ch == CH_BOX_ON_GOAL;
  }

  private static boolean isGoalCharacter(int ch) {
    return ch == CH_GOAL || ch == CH_BOX_ON_GOAL || ch == CH_PUSHER_ON_GOAL;
  }

  private static boolean isLevelCharacter(int ch) {
    return ch == CH_FLOOR || ch == CH_WALL || isPusherCharacter(ch) || isBoxCharacter(ch) || isGoalCharacter(ch);
  }

  private static int neighbour(int cell, int dir) {
    int row = cell / SIDE;
    int col = cell % SIDE;
    if (dir == UP) {
      return row > 0 ? cell - SIDE : OUTSIDE;
    }
    if (dir == RIGHT) {
      return col < SIDE - 1 ? cell + 1 : OUTSIDE;
    }
    if (dir == DOWN) {
      return row < SIDE - 1 ? cell + SIDE : OUTSIDE;
    }
    return col > 0 ? cell - 1 : OUTSIDE;
  }

  private static int neighbourBehind(int cell, int dir) {
    int opposite = dir < DOWN ? dir + 2 : dir - 2;
    return neighbour(cell, opposite);
  }

  private static long bit(int cell) {
    return 1L << cell;
  }

  private static boolean contains(long set, int cell) {
    return cell != OUTSIDE && ((set >>> cell) & 1L) != 0L;
  }

  private static long shiftUp(long set) {
    return set >>> SIDE;
  }

  private static long shiftDown(long set) {
    return set << SIDE;
  }

  // Without the masks a cell at the end of a row would come out in the row beside it.
  private static long shiftRight(long set) {
    return (set << 1) & ~FIRST_COLUMN;
  }

  private static long shiftLeft(long set) {
    return (set >>> 1) & ~LAST_COLUMN;
  }

  private boolean isFree(int cell, long boxSet) {
    return cell != OUTSIDE && !contains(walls | boxSet, cell);
  }

  private boolean allOnGoals(long boxSet) {
    return (boxSet & ~goals) == 0L;
  }

  private void copyEditGrid() {
    walls = 0L;
    goals = 0L;
    boxes = 0L;
    for (int cell = 0; cell < CELLS; cell++) {
      int ch = editGrid[cell];
      if (ch == CH_WALL) {
        walls |= bit(cell);
      }
      if (isGoalCharacter(ch)) {
        goals |= bit(cell);
      }
      if (isBoxCharacter(ch)) {
        boxes |= bit(cell);
      }
      if (isPusherCharacter(ch)) {
        pusherCell = cell;
      }
    }
  }

  private void findLiveCells() {
    long open = ~walls;
    // A box can be pushed up from a cell only when the cell below it, where the pusher stands, is open.
    long pushableUp = open & shiftUp(open);
    long pushableDown = open & shiftDown(open);
    long pushableRight = open & shiftRight(open);
    long pushableLeft = open & shiftLeft(open);
    long found = goals;
    // Every round but the last adds a cell, so 64 rounds are enough.
    for (int round = 0; round < CELLS; round++) {
      long before = found;
      found |= shiftDown(before) & pushableUp;
      found |= shiftUp(before) & pushableDown;
      found |= shiftLeft(before) & pushableRight;
      found |= shiftRight(before) & pushableLeft;
      if (found == before) {
        break;
      }
    }
    liveCells = found;
  }

  private void rankLiveCells() {
    liveTotal = 0;
    for (int cell = 0; cell < CELLS; cell++) {
      liveRank[cell] = liveTotal;
      if (contains(liveCells, cell)) {
        liveTotal++;
      }
    }
  }

  private long reachableArea(int from, long boxSet) {
    long free = ~(walls | boxSet);
    long area = bit(from);
    // Every round but the last adds a cell, so 64 rounds are enough.
    for (int round = 0; round < CELLS; round++) {
      long beside = shiftUp(area) | shiftRight(area) | shiftDown(area) | shiftLeft(area);
      long wider = area | (beside & free);
      if (wider == area) {
        break;
      }
      area = wider;
    }
    return area;
  }

  private void addRecord() {
    historyBoxes[historyNext] = boxes;
    historyPusher[historyNext] = pusherCell;
    historyNext = historyNext == historyLimit - 1 ? 0 : historyNext + 1;
    if (historyTotal < historyLimit) {
      historyTotal++;
    }
  }

  private void pushBox(int box, int ahead) {
    addRecord();
    boxes = (boxes & ~bit(box)) | bit(ahead);
    pusherCell = box;
    moves++;
    pushes++;
  }

  private boolean isWithinSizeLimit() {
    if (boxTotal == 1) {
      return liveTotal <= MAX_LIVE_ONE_BOX;
    }
    if (boxTotal == 2) {
      return liveTotal <= MAX_LIVE_TWO_BOXES;
    }
    return liveTotal <= MAX_LIVE_THREE_BOXES;
  }

  /**
   * Searches breadth first and answers the first node that is solved, or NO_NODE.
   * Nodes are expanded in the order in which they were met and pushes are tried by rising code, so within
   * one depth the nodes stand in lexical order of their least push lists: the first solved node has the
   * least list of all.
   */
  private int findSolvingNode() {
    // A box that is not on a live cell can never come to a goal.
    if ((boxes & ~liveCells) != 0L) {
      return NO_NODE;
    }
    for (int number = 0; number < NODE_NUMBERS; number++) {
      nodeMet[number] = false;
    }
    nodeTotal = 0;
    addNode(boxes, pusherCell, NO_NODE, NO_CODE);
    for (int node = 0; node < MAX_NODES && node < nodeTotal; node++) {
      if (nodeDepth[node] >= pushLimit) {
        break;
      }
      int solving = expandNode(node);
      if (solving != NO_NODE) {
        return solving;
      }
    }
    return NO_NODE;
  }

  /** Adds the nodes one push after this one; answers the first of them that is solved, or NO_NODE. */
  private int expandNode(int node) {
    long boxSet = nodeBoxes[node];
    long area = reachableArea(nodePusher[node], boxSet);
    for (int code = 0; code < PUSH_CODES; code++) {
      int box = code / DIRECTIONS;
      int dir = code % DIRECTIONS;
      if (!contains(boxSet, box)) {
        continue;
      }
      int ahead = neighbour(box, dir);
      int behind = neighbourBehind(box, dir);
      boolean legal = isFree(ahead, boxSet) && contains(area, behind);
      // A push to a cell that is not live belongs to no solution.
      if (legal && contains(liveCells, ahead)) {
        long nextBoxes = (boxSet & ~bit(box)) | bit(ahead);
        boolean added = addNode(nextBoxes, box, node, code);
        if (added && allOnGoals(nextBoxes)) {
          return nodeTotal - 1;
        }
      }
    }
    return NO_NODE;
  }

  /** Answers false, and adds nothing, when the node has been met before. */
  private boolean addNode(long boxSet, int pusherAt, int parent, int code) {
    int number = nodeNumber(boxSet, pusherAt);
    if (nodeMet[number] || nodeTotal >= MAX_NODES) {
      return false;
    }
    nodeMet[number] = true;
    nodeBoxes[nodeTotal] = boxSet;
    nodePusher[nodeTotal] = pusherAt;
    nodeParent[nodeTotal] = parent;
    nodeCode[nodeTotal] = code;
    nodeDepth[nodeTotal] = parent == NO_NODE ? 0 : nodeDepth[parent] + 1;
    nodeTotal++;
    return true;
  }

  private int nodeNumber(long boxSet, int pusherAt) {
    int number = 0;
    for (int cell = 0; cell < CELLS; cell++) {
      if (((boxSet >>> cell) & 1L) != 0L) {
        number = number * liveTotal + liveRank[cell];
      }
    }
    return number * CELLS + pusherAt;
  }

  private void storePushesTo(int lastNode) {
    storedTotal = nodeDepth[lastNode];
    int node = lastNode;
    for (int i = storedTotal - 1; i >= 0; i--) {
      storedPushes[i] = nodeCode[node];
      node = nodeParent[node];
    }
  }
}
