import java.util.ArrayList;
import java.util.List;
import java.util.TreeSet;
import java.util.function.Supplier;
import java.util.function.ToIntFunction;

/** Refusals, of the document's terms: every kind of refused call, on objects in every kind of state. */
public final class RefusalTest {
  private static final int[] NUMBERS = {Integer.MIN_VALUE, -8, -1, 0, 1, 3, 4, 5, 7, 8, 13, Integer.MAX_VALUE};
  private static final int[] CHARACTERS = {Integer.MIN_VALUE, -1, 0, 31, 32, 33, 35, 64, 65, 65536 + 35, Integer.MAX_VALUE};
  private static final int[] DIRECTIONS = {Integer.MIN_VALUE, -4, -1, 0, 1, 2, 3, 4, Integer.MAX_VALUE};

  private static final TreeSet<Integer> ANSWERS = new TreeSet<>();

  private record Call(String name, ToIntFunction<BoxPushSolver> made) {}

  public static void main(String[] args) {
    Check.sentence("Refusals: Any call that is refused changes nothing at all");
    sweep("fresh", () -> new BoxPushSolver(10, 10));
    sweep("drawn", () -> drawn("@$.", "   "));
    sweep("start refused", RefusalTest::startRefused);
    sweep("just started", () -> Check.started(10, 10, " @# $ . ", "  ######"));
    sweep("shut in", () -> Check.started(10, 10, "@#*$. ", "######"));
    sweep("box at the edge", RefusalTest::boxAtTheEdge);
    sweep("played", Check::played);
    sweep("all undone", RefusalTest::allUndone);
    sweep("played, no boxes drawn", () -> playedThenDrawn("@."));
    sweep("played, four boxes drawn", () -> playedThenDrawn("@****"));
    sweep("played, too few goals drawn", () -> playedThenDrawn("@$"));
    sweep("played, too many goals drawn", () -> playedThenDrawn("@$.."));
    sweep("solved", RefusalTest::solved);
    sweep("too big", RefusalTest::tooBig);
    Check.same("kinds of refusal", ANSWERS.toString(), "[-10, -9, -8, -6, -5, -4, -3, -2, -1]");
    Check.end();
  }

  private static BoxPushSolver drawn(String... rows) {
    BoxPushSolver x = new BoxPushSolver(10, 10);
    Check.draw(x, rows);
    return x;
  }

  private static BoxPushSolver startRefused() {
    BoxPushSolver x = drawn("@$.@", "    ");
    Check.due("refused start", x.start(), BoxPushSolver.ERR_PUSHER);
    return x;
  }

  private static BoxPushSolver boxAtTheEdge() {
    BoxPushSolver x = Check.started(10, 10, "     @$ ", "   .    ");
    Check.due("solve", x.solve(), BoxPushSolver.ERR_NONE);
    Check.due("pushing move", x.move(BoxPushSolver.RIGHT), BoxPushSolver.PUSHED);
    return x;
  }

  private static BoxPushSolver allUndone() {
    BoxPushSolver x = Check.played();
    for (int i = 0; i < 8; i++) {
      Check.due("undo", x.undo(), true);
    }
    return x;
  }

  private static BoxPushSolver playedThenDrawn(String row) {
    BoxPushSolver x = Check.played();
    Check.draw(x, row);
    return x;
  }

  private static BoxPushSolver solved() {
    BoxPushSolver x = Check.started(10, 10, "   @$.  ", "        ");
    Check.due("solve", x.solve(), 1);
    Check.due("pushing move", x.move(BoxPushSolver.RIGHT), BoxPushSolver.PUSHED);
    x.setCell(0, 0, '@');
    return x;
  }

  private static BoxPushSolver tooBig() {
    BoxPushSolver x = Check.started(10, 10, "        ", " $ * *  ", "  @   . ", "        ");
    Check.due("push", x.push(1, 3, BoxPushSolver.DOWN), BoxPushSolver.PUSHED);
    Check.due("walk", x.move(BoxPushSolver.UP), BoxPushSolver.WALKED);
    Check.draw(x, "#.*$@+ #");
    return x;
  }

  private static List<Call> calls() {
    List<Call> calls = new ArrayList<>();
    calls.add(new Call("start()", x -> x.start()));
    calls.add(new Call("undo()", x -> x.undo() ? 0 : -1));
    calls.add(new Call("solve()", x -> x.solve()));
    for (int dir : DIRECTIONS) {
      calls.add(new Call("move(" + dir + ")", x -> x.move(dir)));
    }
    for (int row : NUMBERS) {
      for (int col : NUMBERS) {
        for (int ch : CHARACTERS) {
          calls.add(new Call("setCell(" + row + ", " + col + ", " + ch + ")", x -> x.setCell(row, col, ch) ? 0 : -1));
        }
        for (int dir : DIRECTIONS) {
          calls.add(new Call("push(" + row + ", " + col + ", " + dir + ")", x -> x.push(row, col, dir)));
        }
      }
    }
    return calls;
  }

  private static boolean isRefusal(int answer) {
    return answer < 0 && answer != BoxPushSolver.ERR_NONE;
  }

  /** Finds the refused calls, each on a new object; then makes them all on one object, which must stay as it was. */
  private static void sweep(String name, Supplier<BoxPushSolver> maker) {
    BoxPushSolver x = maker.get();
    String before = Check.reading(x);
    int refusals = 0;
    for (Call call : calls()) {
      int answer = call.made.applyAsInt(maker.get());
      if (isRefusal(answer)) {
        refusals++;
        ANSWERS.add(answer);
        Check.due(name + ", " + call.name, call.made.applyAsInt(x), answer);
        Check.same(name + ", " + call.name, Check.reading(x), before);
      }
    }
    Check.due(name + ", refusals", refusals > 1000, true);
    Check.alike(name, x, maker.get());
  }
}
