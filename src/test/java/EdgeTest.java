import java.io.IOException;
import java.nio.file.Path;

/**
 * Each sentence of the document that names a boundary case: the last values that are taken, the first that are refused,
 * what STATUS says then, and that nothing else has changed.
 */
public final class EdgeTest {
  public static void main(String[] args) throws IOException {
    Edge e = new Edge(Path.of("../shared/DOC.md"));
    EdgesOfBooks.all(e);
    EdgesOfScripts.all(e);
    EdgesOfHops.all(e);
    EdgesOfWays.all(e);
    EdgesOfActs.all(e);
    EdgesOfHistory.all(e);
    EdgesOfQuestions.all(e);
    EdgesOfFace.all(e);
    e.finish("EdgeTest");
  }
}
