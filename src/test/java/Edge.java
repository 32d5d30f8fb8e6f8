import java.io.IOException;
import java.io.UncheckedIOException;
import java.nio.file.Files;
import java.nio.file.Path;

/** Checks by the document's sentences: each test of an edge names the words that ask for it. */
final class Edge {
  private static final Path DOC = Path.of("..", "shared", "DOC.md");

  private final String test;
  private final Check check;
  private final String document;
  private String words = "";

  Edge(String test) {
    this.test = test;
    check = new Check(test);
    try {
      document = flat(Files.readString(DOC));
    } catch (IOException e) {
      throw new UncheckedIOException(e);
    }
  }

  private static String flat(String text) {
    return text.replaceAll("\\s+", " ");
  }

  /**
   * The words that the checks behind it are about. Words that the document has no more are told, but let the
   * test pass: what is due is judged by the answers alone.
   */
  void says(String words) {
    this.words = words;
    if (!document.contains(flat(words))) {
      System.out.println(test + ": the document does not say \"" + words + "\"");
    }
  }

  void due(String what, long got, long want) {
    check.due("\"" + words + "\": " + what, got, want);
  }

  void end() {
    check.end();
  }
}
