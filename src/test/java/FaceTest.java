import java.io.IOException;
import java.lang.reflect.Field;
import java.lang.reflect.Member;
import java.lang.reflect.Method;
import java.lang.reflect.Modifier;
import java.nio.file.Files;
import java.nio.file.Path;
import java.util.ArrayList;
import java.util.List;
import java.util.Random;
import java.util.TreeSet;
import java.util.regex.Matcher;
import java.util.regex.Pattern;
import java.util.stream.Stream;

/** The face as the document's code block gives it, the rules of LANGUAGE.md that can be seen, and any arguments. */
public final class FaceTest {
  private static final Check CHECK = new Check("FaceTest");
  private static final Path DOC = Path.of("..", "shared", "DOC.md");
  private static final Path SOURCE = Path.of("src", "main", "java", "SlipTrees.java");

  private static void face() throws IOException {
    TreeSet<String> due = new TreeSet<>();
    Matcher m = Pattern.compile("public (int|long) (\\w+)\\((.*)\\);").matcher(Files.readString(DOC));
    while (m.find()) {
      int arguments = m.group(3).isEmpty() ? 0 : m.group(3).split(",").length;
      due.add(m.group(1) + " " + m.group(2) + " " + arguments);
    }
    TreeSet<String> got = new TreeSet<>();
    for (Method method : SlipTrees.class.getDeclaredMethods()) {
      if (Modifier.isPublic(method.getModifiers())) {
        got.add(method.getReturnType() + " " + method.getName() + " " + method.getParameterCount());
        for (Class<?> type : method.getParameterTypes()) {
          CHECK.so(method.getName() + " takes ints", type == int.class);
        }
      }
    }
    CHECK.due("methods", got.size(), 29);
    CHECK.so("face " + got + " is " + due, got.equals(due));
    CHECK.so("class is public and final", SlipTrees.class.getModifiers() == (Modifier.PUBLIC | Modifier.FINAL));
    CHECK.due("constructors", SlipTrees.class.getDeclaredConstructors().length, 1);
  }

  private static void members() {
    for (Field field : SlipTrees.class.getDeclaredFields()) {
      boolean none = field.getName().equals("NONE");
      CHECK.so(field.getName() + " is private", Modifier.isPrivate(field.getModifiers()) != none);
      CHECK.so(field.getName() + " is no state of all",
          !Modifier.isStatic(field.getModifiers()) || Modifier.isFinal(field.getModifiers()));
    }
    List<Member> all = new ArrayList<>(List.of(SlipTrees.class.getDeclaredMethods()));
    TreeSet<String> open = new TreeSet<>();
    for (Member member : all) {
      if (Modifier.isPublic(member.getModifiers())) {
        open.add(member.getName());
      }
    }
    for (Class<?> inner : SlipTrees.class.getDeclaredClasses()) {
      CHECK.so(inner + " is static", Modifier.isStatic(inner.getModifiers()));
      CHECK.so(inner + " is not public", !Modifier.isPublic(inner.getModifiers()));
      all.addAll(List.of(inner.getDeclaredMethods()));
      CHECK.so(inner + " has some twenty fields at most", Stream.of(inner.getDeclaredFields())
          .filter(f -> !Modifier.isStatic(f.getModifiers())).count() <= 20);
    }
    for (Member member : all) {
      boolean isOpen = Modifier.isPublic(member.getModifiers());
      CHECK.so(member.getName() + " is private or open", isOpen || !open.contains(member.getName()));
      CHECK.so(member.getName() + " takes seven at most", ((Method) member).getParameterCount() <= 7);
    }
    CHECK.so("some twelve classes at most", SlipTrees.class.getDeclaredClasses().length <= 11);
  }

  private static void language() throws IOException {
    String source = Files.readString(SOURCE);
    CHECK.so("signs of ASCII alone", source.chars().allMatch(c -> c < 127));
    String code = source.replaceAll("(?s)/\\*.*?\\*/", "").replaceAll("//[^\n]*", "")
        .replaceAll("\"[^\"]*\"", "\"\"").replaceAll("'[^']*'", "' '");
    String[] never = {"throw", "throws", "try", "catch", "finally", "synchronized", "assert", "instanceof", "goto",
      "yield", "var", "equals", "hashCode", "toString", "System\\.out", "System\\.err", "System\\.nano\\w*",
      "Object", "Map", "Set", "Optional", "stream", "Random", "Thread", "protected", "volatile", "transient"};
    for (String word : never) {
      CHECK.so("no " + word, !Pattern.compile("\\b" + word + "\\b").matcher(code).find());
    }
    CHECK.so("no lambda", !code.contains("->"));
    CHECK.so("no method reference", !code.contains("::"));
    CHECK.so("no annotation", !code.contains("@"));
    CHECK.so("no exact function", !code.contains("Exact"));
    Matcher imports = Pattern.compile("import ([\\w.]+);").matcher(code);
    while (imports.find()) {
      CHECK.so("import " + imports.group(1), List.of("java.util.Arrays", "java.util.ArrayList", "java.util.List")
          .contains(imports.group(1)));
    }
    methodsAreShort(source);
  }

  private static void methodsAreShort(String source) {
    String[] lines = source.split("\n");
    int start = 0;
    for (int i = 0; i < lines.length; i++) {
      if (lines[i].matches(" {2,4}\\S.*\\) \\{")) {
        start = i;
      }
      if (lines[i].matches(" {2,4}\\}")) {
        CHECK.so("the method that ends on line " + (i + 1) + " is short", i - start < 60 || lines[i].length() == 3);
      }
      CHECK.so("line " + (i + 1) + " is short", lines[i].length() <= 120);
    }
  }

  /** No call ever throws, for any arguments in any state. */
  private static void anyArguments() throws ReflectiveOperationException {
    int[] odd = {Integer.MIN_VALUE, Integer.MIN_VALUE + 1, -1_000_000, -2, -1, 0, 0, 0, 1, 1, 2, 3, 4, 5, 7, 8, 9, 12,
      15, 16, 40, 41, 99, 100, 119, 120, 400, 9999, 10000, 1_000_000, Integer.MAX_VALUE - 1, Integer.MAX_VALUE};
    Method[] methods = SlipTrees.class.getDeclaredMethods();
    java.util.Arrays.sort(methods, java.util.Comparator.comparing(Method::getName));
    Random random = new Random(1);
    for (int run = 0; run < 200; run++) {
      SlipTrees x = new SlipTrees();
      int small = run % 2 == 0 ? 3 : odd.length;
      for (int i = 0; i < 512; i++) {
        Method method = methods[random.nextInt(methods.length)];
        if (!Modifier.isPublic(method.getModifiers())) {
          continue;
        }
        Object[] arguments = new Object[method.getParameterCount()];
        for (int a = 0; a < arguments.length; a++) {
          boolean any = random.nextInt(8) == 0;
          arguments[a] = any ? odd[random.nextInt(odd.length)] : random.nextInt(small) % 12;
        }
        method.invoke(x, arguments);
      }
    }
    CHECK.so("no call threw", true);
  }

  public static void main(String[] args) throws Exception {
    face();
    members();
    language();
    anyArguments();
    CHECK.end();
  }
}
