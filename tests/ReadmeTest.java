import java.io.File;
import java.net.URL;
import java.net.URLClassLoader;
import java.nio.charset.StandardCharsets;
import java.nio.file.Files;
import java.nio.file.Path;
import java.nio.file.Paths;
import java.util.ArrayList;
import java.util.List;
import java.util.Set;
import java.util.TreeSet;
import java.util.regex.Matcher;
import java.util.regex.Pattern;
import javax.tools.ToolProvider;

/**
 * README.md: the calls that it shows answer what it says that they answer. Its blocks of Java are
 * compiled as they stand there, one behind the other, each answer as a comparison.
 */
public final class ReadmeTest {
  private static final String MADE = "ReadmeCalls";
  private static final Pattern BLOCK = Pattern.compile("(?s)```java\n(.*?)```");
  private static final Pattern ANSWERED =
      Pattern.compile("(?:boolean (\\w+) = )?(.*\\(.*\\).*);\\s*// ([^:]+)(: .*)?");
  private static final String[] METHODS = {"letter", "blank", "fault", "enter", "entry", "sign",
      "as", "strike", "age", "part", "bound", "two", "fits", "nearest", "lives", "life", "wedding",
      "worth", "mate", "count", "digest"};
  private static final int MOST_CALLS = 512;

  private final String readme;
  private final StringBuilder members = new StringBuilder();
  private final StringBuilder statements = new StringBuilder();
  private final Set<String> shown = new TreeSet<>();
  private final List<String> calls = new ArrayList<>();
  private final List<String> answers = new ArrayList<>();
  private int callsOfTheObject;

  private ReadmeTest(String readme) {
    this.readme = readme;
  }

  public static void main(String[] args) throws Exception {
    ReadmeTest test = new ReadmeTest(read(Paths.get("README.md")));
    test.readBlocks();
    test.runBlocks();
    test.eachCallIsShown();
    test.eachKindOfAnswerIsShown();
    test.eachTestIsListed();
    test.eachConstantIsRight();
    test.eachRegisterTakesAsManyCalls();
    enteredAnew();
    Check.end();
  }

  private static String read(Path path) throws Exception {
    return new String(Files.readAllBytes(path), StandardCharsets.UTF_8);
  }

  // ---- the calls

  private void readBlocks() {
    Matcher block = BLOCK.matcher(readme);
    while (block.find()) {
      if (block.group(1).startsWith("static ")) {
        members.append(block.group(1));
      } else {
        for (String line : block.group(1).split("\n")) {
          readLine(line);
        }
      }
    }
  }

  private void readLine(String line) {
    Matcher answered = ANSWERED.matcher(line);
    if (answered.matches()) {
      compare(answered.group(2), answered.group(3).trim());
      return;
    }
    // What tells nothing makes an object, or writes a text.
    Check.holds("an answer is told: " + line,
        line.matches("LifeLinks \\w+ = new LifeLinks\\(\\);|write\\(\\w+, \"[^\"]*\"\\);"));
    statements.append(line).append('\n');
    if (line.startsWith("write(x")) {
      callsOfTheObject += line.length() - "write(x, \"\");".length();
    }
  }

  private void compare(String call, String answer) {
    Matcher name = Pattern.compile("\\w+\\.(\\w+)\\(").matcher(call);
    while (name.find()) {
      shown.add(name.group(1));
      callsOfTheObject += call.startsWith("x.") ? 1 : 0;
    }
    boolean truth = answer.equals("true") || answer.equals("false");
    statements.append("told[").append(answers.size()).append("] = ");
    statements.append(truth ? "(" + call + ") ? 1 : 0" : call).append(";\n");
    calls.add(call);
    answers.add(answer);
  }

  private static long number(String answer) {
    switch (answer) {
      case "true": return 1;
      case "false": return 0;
      case "NONE": return LifeLinks.NONE;
      case "UNKNOWN": return LifeLinks.UNKNOWN;
      case "OUTSIDE": return LifeLinks.OUTSIDE;
      case "STATE": return LifeLinks.STATE;
      case "FULL": return LifeLinks.FULL;
      default: return answer.matches("'.'") ? answer.charAt(1) : Long.parseLong(answer);
    }
  }

  private void runBlocks() throws Exception {
    Path folder = Files.createTempDirectory("readme");
    Path source = folder.resolve(MADE + ".java");
    String program = "public final class " + MADE + " {\n" + members
        + "public static long[] told() {\nlong[] told = new long[" + answers.size() + "];\n"
        + statements + "return told;\n}\n}\n";
    Files.write(source, program.getBytes(StandardCharsets.UTF_8));
    int ended = ToolProvider.getSystemJavaCompiler().run(null, null, null, "--release", "17",
        "-cp", System.getProperty("java.class.path"), "-d", folder.toString(), source.toString());
    Check.due("the compiler", ended, 0);
    URL[] where = {folder.toUri().toURL()};
    try (URLClassLoader loader = new URLClassLoader(where, ReadmeTest.class.getClassLoader())) {
      long[] told = (long[]) loader.loadClass(MADE).getMethod("told").invoke(null);
      for (int k = 0; k < told.length; k++) {
        Check.due(calls.get(k), told[k], number(answers.get(k)));
      }
    }
    for (File file : folder.toFile().listFiles()) {
      file.delete();
    }
    Files.delete(folder);
  }

  // ---- what else it shows

  private void eachCallIsShown() {
    for (String name : METHODS) {
      Check.holds(name + " is shown with an answer", shown.contains(name));
    }
    Check.due("no other call is shown", shown.size(), METHODS.length);
    Check.holds("at most 512 calls: " + callsOfTheObject, callsOfTheObject <= MOST_CALLS);
  }

  private void eachKindOfAnswerIsShown() {
    for (String name : new String[] {"NONE", "UNKNOWN", "OUTSIDE", "STATE", "FULL"}) {
      Check.holds(name + " is shown as an answer", answers.contains(name));
    }
  }

  /** The table names each test of the project, and none that there is not. */
  private void eachTestIsListed() {
    Set<String> listed = new TreeSet<>();
    Matcher row = Pattern.compile("\\| `tests/(\\w+Test)\\.java` \\|").matcher(readme);
    while (row.find()) {
      listed.add(row.group(1));
    }
    Check.holds("the tests that are listed: " + listed, listed.equals(names("tests")));
    Set<String> support = names("tests/support");
    for (String name : support) {
      Check.holds(name + " is told of", readme.contains("`" + name + "`"));
    }
  }

  private static Set<String> names(String folder) {
    Set<String> names = new TreeSet<>();
    for (File file : new File(folder).listFiles()) {
      if (file.getName().endsWith(".java")) {
        names.add(file.getName().replace(".java", ""));
      }
    }
    return names;
  }

  private void eachConstantIsRight() {
    Matcher row = Pattern.compile("\\| `([A-Z]+)` \\| (-\\d+) \\|").matcher(readme);
    List<String> rows = new ArrayList<>();
    while (row.find()) {
      rows.add(row.group(1) + row.group(2));
    }
    Check.holds("the numbers of refusals: " + rows, rows.toString().equals("[UNKNOWN"
        + LifeLinks.UNKNOWN + ", OUTSIDE" + LifeLinks.OUTSIDE + ", STATE" + LifeLinks.STATE
        + ", FULL" + LifeLinks.FULL + "]"));
    Check.holds("NONE (-1)", readme.contains("`NONE` (" + LifeLinks.NONE + ")"));
  }

  // ---- "some 310 calls", "some 145"

  private static int callsToEnter(String entry, String birth) {
    LifeLinks x = new LifeLinks();
    int calls = 0;
    int entries = 0;
    StringBuilder text = new StringBuilder();
    while (entries < 18) {
      String next = entries < 4 ? birth : (entries < 11 ? "w" : "d") + entry.substring(1);
      if (text.length() + 1 + next.length() > 60) {
        calls += enter(x, text.toString());
        text.setLength(0);
      }
      text.append(text.length() == 0 ? "" : ";").append(next);
      entries++;
    }
    calls += enter(x, text.toString());
    Check.due("count(0)", x.count(0), 18);
    return calls;
  }

  private static int enter(LifeLinks x, String text) {
    for (char sign : text.toCharArray()) {
      x.letter(sign);
    }
    Check.holds("enter() of " + text, x.enter() > 0);
    return text.length() + 1;
  }

  private void eachRegisterTakesAsManyCalls() {
    int longest = callsToEnter("dabcdefgh:1760.59", "babcdefgh:1700");
    int shortest = callsToEnter("da:1760", "ba:1700");
    Check.holds("some 310: " + longest, readme.contains("some 310") && longest / 10 == 31);
    Check.holds("some 145: " + shortest, readme.contains("some 145") && Math.abs(shortest - 145) < 5);
  }

  // ---- "enter only the ENTRIES that are left, in their order, with the AGES that they have now"

  private static LifeLinks changed() {
    LifeLinks x = Check.made("banna:1700;wana:1722.21;danna:1760.59", "banne:1701;danne:1761.60");
    x.part(0, 1);
    x.part(4, 1);
    x.age(2, 60);
    x.age(1, LifeLinks.NONE);
    x.bound(1, 2);
    x.bound(2, 10);
    Check.due("strike(0)", x.strike(0), 4);
    return x;
  }

  private static String text(LifeLinks x, int entry) {
    StringBuilder text = new StringBuilder();
    text.append("bwd".charAt(x.entry(entry, 0)));
    for (int place = 0; place < x.entry(entry, 3); place++) {
      text.append((char) x.sign(entry, place));
    }
    text.append(':').append(x.entry(entry, 1));
    int age = x.entry(entry, 2);
    return (age == LifeLinks.NONE ? text : text.append('.').append(age)).toString();
  }

  private static void enteredAnew() {
    LifeLinks old = changed();
    LifeLinks anew = new LifeLinks();
    for (int entry = 0; entry < old.count(0); entry++) {
      enter(anew, text(old, entry));
    }
    anew.part(0, 3);
    anew.bound(1, 2);
    anew.bound(2, 10);
    List<String> wants = Told.lines(changed());
    List<String> told = Told.lines(anew);
    Check.holds("all but count() is told as before",
        told.subList(0, told.size() - 1).equals(wants.subList(0, wants.size() - 1)));
    for (int what = 0; what <= 7; what++) {
      boolean same = what != 5 && what != 6;
      Check.holds("count(" + what + ")", same == (anew.count(what) == old.count(what)));
    }
    Check.holds("digest()", anew.digest() != old.digest());
  }
}
