import java.util.ArrayDeque;
import java.util.ArrayList;
import java.util.Arrays;
import java.util.HashMap;
import java.util.HashSet;
import java.util.List;
import java.util.Map;
import java.util.Set;
import java.util.TreeSet;

/**
 * The document once more, written as plainly as can be and in another way than the class: sets of cells, whole
 * positions as history, and a solver that looks at every position, dead ones too, and measures from the solved end.
 */
final class Model {
  private static final int[] ROW_STEP = {-1, 0, 1, 0};
  private static final int[] COL_STEP = {0, 1, 0, -1};

  private final int pushLimit;
  private final int historySize;
  private final char[] grid = new char[64];
  private Set<Integer> walls;
  private Set<Integer> goals;
  private Position now;
  private List<Position> history = new ArrayList<>();
  private List<Integer> stored = new ArrayList<>();

  private record Position(Set<Integer> boxes, int pusher, int moves, int pushes) {}

  /** A position as the solver sees it: the least cell that the pusher reaches stands for all of them. */
  private record Node(Set<Integer> boxes, int leastReached) {}

  Model(int pushLimit, int historySize) {
    this.pushLimit = Math.max(1, Math.min(40, pushLimit));
    this.historySize = Math.max(8, Math.min(64, historySize));
    Arrays.fill(grid, '#');
  }

  static boolean inGrid(int row, int col) {
    return row >= 0 && row <= 7 && col >= 0 && col <= 7;
  }

  static int step(int cell, int dir) {
    int row = cell / 8 + ROW_STEP[dir];
    int col = cell % 8 + COL_STEP[dir];
    return inGrid(row, col) ? row * 8 + col : -1;
  }

  boolean setCell(int row, int col, int ch) {
    if (!inGrid(row, col) || ch < 0 || ch > 127 || " $#*+.@".indexOf(ch) < 0) {
      return false;
    }
    grid[row * 8 + col] = (char) ch;
    return true;
  }

  int getCell(int row, int col) {
    return inGrid(row, col) ? grid[row * 8 + col] : -1;
  }

  private Set<Integer> cellsWith(String characters) {
    Set<Integer> cells = new TreeSet<>();
    for (int cell = 0; cell < 64; cell++) {
      if (characters.indexOf(grid[cell]) >= 0) {
        cells.add(cell);
      }
    }
    return cells;
  }

  int start() {
    Set<Integer> pushers = cellsWith("@+");
    Set<Integer> boxes = cellsWith("$*");
    Set<Integer> newGoals = cellsWith(".*+");
    if (pushers.size() != 1) {
      return -8;
    }
    if (boxes.isEmpty() || boxes.size() > 3) {
      return -9;
    }
    if (newGoals.size() != boxes.size()) {
      return -10;
    }
    walls = cellsWith("#");
    goals = newGoals;
    now = new Position(boxes, pushers.iterator().next(), 0, 0);
    history = new ArrayList<>();
    stored = new ArrayList<>();
    return 0;
  }

  private boolean free(int cell, Set<Integer> boxes) {
    return cell >= 0 && !walls.contains(cell) && !boxes.contains(cell);
  }

  private Set<Integer> reached(int pusher, Set<Integer> boxes) {
    Set<Integer> cells = new TreeSet<>();
    ArrayDeque<Integer> open = new ArrayDeque<>();
    cells.add(pusher);
    open.add(pusher);
    while (!open.isEmpty()) {
      int cell = open.remove();
      for (int dir = 0; dir < 4; dir++) {
        int next = step(cell, dir);
        if (free(next, boxes) && cells.add(next)) {
          open.add(next);
        }
      }
    }
    return cells;
  }

  private static Set<Integer> moved(Set<Integer> boxes, int from, int to) {
    Set<Integer> next = new TreeSet<>(boxes);
    next.remove(from);
    next.add(to);
    return next;
  }

  private void become(Position next) {
    history.add(now);
    if (history.size() > historySize) {
      history.remove(0);
    }
    now = next;
  }

  int move(int dir) {
    if (now == null) {
      return -1;
    }
    if (dir < 0 || dir > 3) {
      return -2;
    }
    int target = step(now.pusher, dir);
    if (target < 0 || walls.contains(target)) {
      return -3;
    }
    if (!now.boxes.contains(target)) {
      become(new Position(now.boxes, target, now.moves + 1, now.pushes));
      return 1;
    }
    int ahead = step(target, dir);
    if (!free(ahead, now.boxes)) {
      return -3;
    }
    become(new Position(moved(now.boxes, target, ahead), target, now.moves + 1, now.pushes + 1));
    return 2;
  }

  int push(int row, int col, int dir) {
    if (now == null) {
      return -1;
    }
    if (!inGrid(row, col) || dir < 0 || dir > 3) {
      return -2;
    }
    int box = row * 8 + col;
    if (!now.boxes.contains(box)) {
      return -4;
    }
    int ahead = step(box, dir);
    int behind = step(box, (dir + 2) % 4);
    if (!free(ahead, now.boxes) || !free(behind, now.boxes)) {
      return -3;
    }
    if (!reached(now.pusher, now.boxes).contains(behind)) {
      return -5;
    }
    become(new Position(moved(now.boxes, box, ahead), box, now.moves + 1, now.pushes + 1));
    return 2;
  }

  boolean undo() {
    if (now == null || history.isEmpty()) {
      return false;
    }
    now = history.remove(history.size() - 1);
    return true;
  }

  int pusher() {
    return now == null ? -1 : now.pusher;
  }

  boolean boxAt(int row, int col) {
    return now != null && inGrid(row, col) && now.boxes.contains(row * 8 + col);
  }

  boolean reachable(int row, int col) {
    return now != null && inGrid(row, col) && reached(now.pusher, now.boxes).contains(row * 8 + col);
  }

  private Set<Integer> liveSet() {
    Set<Integer> cells = new TreeSet<>(goals);
    boolean grown = true;
    while (grown) {
      grown = false;
      for (int target : new ArrayList<>(cells)) {
        for (int dir = 0; dir < 4; dir++) {
          int from = step(target, (dir + 2) % 4);
          int behind = from < 0 ? -1 : step(from, (dir + 2) % 4);
          if (behind >= 0 && !walls.contains(from) && !walls.contains(behind)) {
            grown |= cells.add(from);
          }
        }
      }
    }
    return cells;
  }

  boolean live(int row, int col) {
    return now != null && inGrid(row, col) && liveSet().contains(row * 8 + col);
  }

  int liveCount() {
    return liveSet().size();
  }

  boolean solved() {
    return now != null && goals.containsAll(now.boxes);
  }

  int moveCount() {
    return now == null ? 0 : now.moves;
  }

  int pushCount() {
    return now == null ? 0 : now.pushes;
  }

  int solve() {
    if (now == null) {
      return -1;
    }
    if (solved()) {
      stored = new ArrayList<>();
      return 0;
    }
    int[] greatest = {0, 60, 8, 6};
    if (liveSet().size() > greatest[now.boxes.size()]) {
      return -6;
    }
    Node first = node(now.boxes, now.pusher);
    Map<Node, Map<Integer, Node>> graph = graphFrom(first);
    Map<Node, Integer> left = pushesLeft(graph);
    stored = new ArrayList<>();
    if (!left.containsKey(first) || left.get(first) > pushLimit) {
      return -7;
    }
    Node at = first;
    while (left.get(at) > 0) {
      int best = 256;
      for (Map.Entry<Integer, Node> edge : graph.get(at).entrySet()) {
        Integer after = left.get(edge.getValue());
        if (after != null && after == left.get(at) - 1) {
          best = Math.min(best, edge.getKey());
        }
      }
      stored.add(best);
      at = graph.get(at).get(best);
    }
    return stored.size();
  }

  private Node node(Set<Integer> boxes, int pusher) {
    int least = 63;
    for (int cell : reached(pusher, boxes)) {
      least = Math.min(least, cell);
    }
    return new Node(boxes, least);
  }

  private Map<Node, Map<Integer, Node>> graphFrom(Node first) {
    Map<Node, Map<Integer, Node>> graph = new HashMap<>();
    ArrayDeque<Node> open = new ArrayDeque<>();
    open.add(first);
    graph.put(first, new HashMap<>());
    while (!open.isEmpty()) {
      Node node = open.remove();
      Set<Integer> reach = reached(node.leastReached, node.boxes);
      for (int box : node.boxes) {
        for (int dir = 0; dir < 4; dir++) {
          int ahead = step(box, dir);
          if (free(ahead, node.boxes) && reach.contains(step(box, (dir + 2) % 4))) {
            Node next = node(moved(node.boxes, box, ahead), box);
            graph.get(node).put(box * 4 + dir, next);
            if (!graph.containsKey(next)) {
              graph.put(next, new HashMap<>());
              open.add(next);
            }
          }
        }
      }
    }
    return graph;
  }

  /** For every node from which a solved one can be reached, the least number of pushes to it. */
  private Map<Node, Integer> pushesLeft(Map<Node, Map<Integer, Node>> graph) {
    Map<Node, Set<Node>> before = new HashMap<>();
    Map<Node, Integer> left = new HashMap<>();
    ArrayDeque<Node> open = new ArrayDeque<>();
    for (Node node : graph.keySet()) {
      for (Node next : graph.get(node).values()) {
        before.computeIfAbsent(next, key -> new HashSet<>()).add(node);
      }
      if (goals.containsAll(node.boxes)) {
        left.put(node, 0);
        open.add(node);
      }
    }
    while (!open.isEmpty()) {
      Node node = open.remove();
      for (Node earlier : before.getOrDefault(node, Set.of())) {
        if (!left.containsKey(earlier)) {
          left.put(earlier, left.get(node) + 1);
          open.add(earlier);
        }
      }
    }
    return left;
  }

  int solutionLength() {
    return stored.size();
  }

  int solutionPush(int i) {
    return i >= 0 && i < stored.size() ? stored.get(i) : -1;
  }
}
