import java.util.ArrayList;
import java.util.List;

/** Counts the checks of one test, and tells those that fail. */
final class Check {
  private static final int MOST_TOLD = 40;

  private final String test;
  private int passed = 0;
  private final List<String> failed = new ArrayList<>();

  Check(String test) {
    this.test = test;
  }

  void due(String what, long got, long want) {
    if (got == want) {
      passed++;
    } else {
      failed.add(what + " answered " + got + ", due is " + want);
    }
  }

  void so(String what, boolean so) {
    due(what, so ? 1 : 0, 1);
  }

  boolean anyFailed() {
    return !failed.isEmpty();
  }

  /** Ends the test's program: the last line tells how many checks passed and failed. */
  void end() {
    failed.stream().limit(MOST_TOLD).forEach(f -> System.out.println(test + ": " + f));
    System.out.println(test + ": " + passed + " passed, " + failed.size() + " failed");
    System.exit(failed.isEmpty() ? 0 : 1);
  }
}
