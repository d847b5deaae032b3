import java.io.IOException;
import java.nio.file.Files;
import java.nio.file.Path;
import java.util.ArrayList;
import java.util.List;

/** The example of README.md: its lines stand below, and what its comments say holds. Run in the project's directory. */
public final class ReadmeTest {
  public static void main(String[] args) throws IOException {
    example();
    sameLines();
    Check.end();
  }

  private static void example() {
    BoxPushSolver x = new BoxPushSolver(40, 64);
    x.setCell(0, 0, '@');
    x.setCell(0, 1, '$');
    x.setCell(0, 2, ' ');
    x.setCell(0, 3, '.');
    int begun = x.start();
    Check.due("start", begun, BoxPushSolver.OK);
    int pushes = x.solve();
    Check.due("solve", pushes, 2);
    for (int i = 0; i < pushes; i++) {
      int c = x.solutionPush(i);
      int pushed = x.push(c / 32, (c / 4) % 8, c % 4);
      Check.due("push", pushed, BoxPushSolver.PUSHED);
    }
    boolean done = x.solved();
    Check.due("solved", done, true);
    boolean undone = x.undo();
    Check.due("undo", undone, true);
    Check.due("solved after undo", x.solved(), false);
    String before = Check.reading(x);
    int refused = x.push(0, 7, BoxPushSolver.UP);
    Check.due("refused push", refused, BoxPushSolver.ERR_NO_BOX);
    Check.same("refused push", Check.reading(x), before);
  }

  /** Every line of the README's example stands in this test, in the README's order. */
  private static void sameLines() throws IOException {
    List<String> source = bare(Files.readAllLines(Path.of("src/test/java/ReadmeTest.java")));
    int from = source.indexOf("private static void example() {");
    List<String> example = exampleLines();
    Check.due("the example has lines", example.size() > 10, true);
    for (String line : example) {
      int at = source.subList(from + 1, source.size()).indexOf(line);
      Check.due("the test has the line [" + line + "]", at >= 0, true);
      from += at + 1;
    }
  }

  private static List<String> exampleLines() throws IOException {
    List<String> readme = Files.readAllLines(Path.of("README.md"));
    int begin = readme.indexOf("```java");
    Check.due("README.md has an example", begin >= 0, true);
    List<String> rest = readme.subList(begin + 1, readme.size());
    return bare(rest.subList(0, rest.indexOf("```")));
  }

  private static List<String> bare(List<String> lines) {
    List<String> stripped = new ArrayList<>();
    for (String line : lines) {
      stripped.add(line.replaceFirst("//.*", "").strip());
    }
    return stripped;
  }
}
