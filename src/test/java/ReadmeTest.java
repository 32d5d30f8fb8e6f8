import java.io.IOException;
import java.nio.file.Files;
import java.nio.file.Path;
import java.util.ArrayList;
import java.util.Comparator;
import java.util.List;
import java.util.TreeSet;
import java.util.regex.Matcher;
import java.util.regex.Pattern;
import java.util.stream.Stream;

/** README.md's example compiles and answers as it says; its methods, laws and commands are as they are. */
public final class ReadmeTest {
  private static final Check CHECK = new Check("ReadmeTest");
  private static final Path README = Path.of("README.md");
  private static final Path DOC = Path.of("..", "shared", "DOC.md");
  private static final String ALL = ".ci/run\n";

  private static String readme;

  /** What stands between lines of three ticks, in such a language. */
  private static List<String> blocks(String language) {
    List<String> found = new ArrayList<>();
    Matcher m = Pattern.compile("(?ms)^```" + language + "\n(.*?)^```$").matcher(readme);
    while (m.find()) {
      found.add(m.group(1));
    }
    return found;
  }

  /** What a regular expression's first group finds, one behind the other. */
  private static List<String> all(String expression, String text) {
    List<String> found = new ArrayList<>();
    Matcher m = Pattern.compile(expression).matcher(text);
    while (m.find()) {
      found.add(m.group(1));
    }
    return found;
  }

  /** Runs a command in a directory, what it prints goes to a file: its exit code. */
  private static int exitOf(Path directory, Path printed, String... command) throws IOException, InterruptedException {
    ProcessBuilder process = new ProcessBuilder(command).directory(directory.toFile());
    return process.redirectErrorStream(true).redirectOutput(printed.toFile()).start().waitFor();
  }

  /** A directory like this one, with ../shared beside it, in which what the commands make is no matter. */
  private static Path copyOfHere(Path room) throws IOException {
    Path main = Files.createDirectory(room.resolve("main"));
    Files.createSymbolicLink(main.resolve("src"), Path.of("src").toRealPath());
    Files.createSymbolicLink(room.resolve("shared"), Path.of("..", "shared").toRealPath());
    return main;
  }

  private static void example(Path main, Path printed) throws IOException, InterruptedException {
    List<String> examples = blocks("java");
    CHECK.due("examples in README.md", examples.size(), 1);
    if (examples.size() != 1) {
      return;
    }
    String example = examples.get(0);
    List<String> calls = all("System\\.out\\.println\\((.*)\\);", example);
    List<String> due = all("System\\.out\\.println\\(.*\\); +// (-?\\d+): ", example);
    CHECK.so("each call of README.md's example has its answer", !calls.isEmpty() && calls.size() == due.size());
    Files.writeString(main.resolve("Example.java"), example);
    int compiled = exitOf(main, printed, "javac", "-encoding", "UTF-8", "-Xlint:all", "-Werror", "-d", "out",
        "src/main/java/SlipTrees.java", "Example.java");
    CHECK.due("README.md's example compiles: " + Files.readString(printed) + "javac", compiled, 0);
    CHECK.due("README.md's example runs: java", exitOf(main, printed, "java", "-cp", "out", "Example"), 0);
    List<String> got = Files.readAllLines(printed);
    CHECK.due("lines of README.md's example", got.size(), due.size());
    for (int i = 0; i < Math.min(got.size(), Math.min(calls.size(), due.size())); i++) {
      CHECK.so(calls.get(i) + " is " + got.get(i) + ", README.md says " + due.get(i), got.get(i).equals(due.get(i)));
    }
  }

  private static void methods() throws IOException {
    String face = "((?:int|long) \\w+\\([^)]*\\))";
    TreeSet<String> due = new TreeSet<>(all("public " + face + ";", Files.readString(DOC)));
    List<String> told = all("(?m)^- `" + face + "`: ", readme);
    CHECK.so("README.md tells the methods " + told + ", the face has " + due, new TreeSet<>(told).equals(due));
    CHECK.due("methods told by README.md", told.size(), due.size());
  }

  private static void laws() {
    List<String> texts = blocks("text");
    CHECK.due("laws in README.md", texts.size(), 1);
    for (String text : texts) {
      SlipTrees x = new SlipTrees();
      CHECK.due("law of README.md's text", Tapes.law(x, text.replace('\n', ' ')), 0);
      CHECK.due("fault of README.md's text", x.fault(), SlipTrees.NONE);
    }
  }

  private static void commands(Path main, Path printed) throws IOException, InterruptedException {
    List<String> commands = blocks("sh");
    CHECK.so("README.md tells how to run all tests at once", commands.contains(ALL));
    CHECK.so(".ci/run can be run", Files.isExecutable(Path.of(".ci", "run")));
    CHECK.due("README.md's other commands", commands.size() - 1, 3);
    for (String command : commands) {
      if (!command.equals(ALL) && standsThere(command)) {
        int exit = exitOf(main, printed, "sh", "-e", "-c", command);
        CHECK.due("README.md's commands\n" + command + Files.readString(printed) + "sh", exit, 0);
      }
    }
  }

  /** Whether the tests under ../shared that a command names, if any, are there: others may stand there one day. */
  private static boolean standsThere(String command) {
    return all("(\\.\\./shared/tests/\\w+\\.java)", command).stream().allMatch(f -> Files.exists(Path.of(f)));
  }

  public static void main(String[] args) throws IOException, InterruptedException {
    readme = Files.readString(README);
    methods();
    laws();
    Path room = Files.createTempDirectory("ReadmeTest");
    try {
      Path main = copyOfHere(room);
      example(main, room.resolve("printed"));
      commands(main, room.resolve("printed"));
    } finally {
      // Links are taken away, not what they lead to.
      try (Stream<Path> inside = Files.walk(room)) {
        for (Path path : inside.sorted(Comparator.reverseOrder()).toList()) {
          Files.delete(path);
        }
      }
    }
    CHECK.end();
  }
}
