import java.io.File;
import java.nio.charset.StandardCharsets;
import java.nio.file.Files;
import java.nio.file.Path;
import java.nio.file.Paths;
import java.util.ArrayList;
import java.util.Arrays;
import java.util.HashSet;
import java.util.List;
import java.util.Set;
import java.util.regex.Matcher;
import java.util.regex.Pattern;

/**
 * Each word of the document is quoted ahead of a test that speaks of it: what is said under the
 * heading of a promise ahead of a test that is named after that promise, all else ahead of any.
 */
public final class SentencesTest {
  private static final Path DOCUMENT = Paths.get("../shared/DOC.md");
  // A run of so many words of the document that a comment has, too, is a quotation.
  private static final int WORDS_OF_A_QUOTATION = 3;
  // What is free, or no sentence, has no test.
  private static final String[] FREE = {"# LifeLinks", "## What it is", "======== 1", "======== 2",
      "what later calls answer is free", "## The public face", "## Terms", "```java", "```text",
      "```"};
  private static final String NOT_PROMISED = "## Not promised";

  private final List<String> comments = new ArrayList<>();
  private final List<String> methods = new ArrayList<>();

  public static void main(String[] args) throws Exception {
    SentencesTest test = new SentencesTest();
    test.readComments();
    test.eachTestIsCalled();
    if (Files.exists(DOCUMENT)) {
      test.eachWordIsQuoted(read(DOCUMENT));
    } else {
      System.out.println("there is no " + DOCUMENT + " to hold the tests against");
    }
    Check.end();
  }

  private void eachWordIsQuoted(String document) {
    Check.holds("the document's last heading", document.contains(NOT_PROMISED));
    int promises = 0;
    for (String section : document.split(NOT_PROMISED)[0].split("(?=\n## Promise )")) {
      Matcher head = Pattern.compile("(?s)\n## Promise (\\d+): [^\n]+\n(.*)").matcher(section);
      if (head.matches()) {
        promises++;
        isQuoted("promise" + head.group(1), head.group(2));
      } else {
        isQuoted("", section);
      }
    }
    Check.due("promises", promises, 22);
  }

  private static String read(Path path) throws Exception {
    return new String(Files.readAllBytes(path), StandardCharsets.UTF_8);
  }

  private void readComments() throws Exception {
    Pattern ahead = Pattern.compile(
        "(?s)/\\*\\*((?:(?!\\*/).)*)\\*/\\s*(?:private static|private) void (\\w+)\\(");
    for (File file : new File("tests").listFiles()) {
      if (file.getName().endsWith("Test.java")) {
        Matcher found = ahead.matcher(read(file.toPath()));
        while (found.find()) {
          comments.add(found.group(1).replaceAll("\n\\s*\\*", " "));
          methods.add(found.group(2));
        }
      }
    }
    Check.holds("tests with words ahead of them: " + methods.size(), methods.size() > 300);
  }

  /** A test that is not called speaks of nothing. */
  private void eachTestIsCalled() throws Exception {
    for (File file : new File("tests").listFiles()) {
      if (!file.isFile()) {
        continue;
      }
      String text = read(file.toPath());
      Matcher named = Pattern.compile("private static void (\\w+)\\(\\)").matcher(text);
      while (named.find()) {
        int calls = text.split("\\b" + named.group(1) + "\\(\\);", -1).length - 1;
        Check.holds(file.getName() + " calls " + named.group(1), calls > 0);
      }
    }
  }

  /** The words of a text without the marks around them, ".." for what a quotation leaves out. */
  private static List<String> words(String text) {
    List<String> words = new ArrayList<>();
    for (String word : text.split("\\s+")) {
      String bare = word.matches("\\W*\\.\\.\\W*") ? ".."
          : word.replaceAll("^[^\\w=+-]*|[^\\w=+-]*$", "");
      if (!bare.isEmpty()) {
        words.add(bare);
      }
    }
    return words;
  }

  private void isQuoted(String name, String section) {
    String text = section;
    for (String free : FREE) {
      text = text.replaceAll(Pattern.quote(free).replace(" ", "\\E\\s+\\Q"), " ");
    }
    List<String> words = words(text);
    boolean[] quoted = new boolean[words.size()];
    for (int k = 0; k < comments.size(); k++) {
      if (methods.get(k).matches(name + "\\D.*")) {
        markQuoted(words, new Runs(comments.get(k)), quoted);
      }
    }
    StringBuilder rest = new StringBuilder();
    for (int k = 0; k < quoted.length; k++) {
      if (!quoted[k]) {
        rest.append(' ').append(words.get(k));
      } else if (k > 0 && !quoted[k - 1]) {
        rest.append(" /");
      }
    }
    Check.holds((name.isEmpty() ? "ahead of the promises" : name) + " has no test for:" + rest,
        rest.length() == 0);
  }

  /** The runs of words that count as quotations of a comment. */
  private static final class Runs {
    final Set<List<String>> all = new HashSet<>();

    Runs(String comment) {
      List<String> words = words(comment);
      for (int k = 0; k + WORDS_OF_A_QUOTATION <= words.size(); k++) {
        all.add(words.subList(k, k + WORDS_OF_A_QUOTATION));
      }
      // A shorter one counts if it stands alone between its marks.
      Matcher marked = Pattern.compile("\"([^\"]*)\"").matcher(comment);
      while (marked.find()) {
        for (String part : marked.group(1).split("\\s\\.\\.|\\.\\.\\s|;")) {
          List<String> few = words(part);
          boolean telling = few.size() == 1 && few.get(0).matches("[A-Z]{4,}");
          if (telling || few.size() == 2) {
            all.add(few);
          }
        }
      }
    }
  }

  private static void markQuoted(List<String> words, Runs runs, boolean[] quoted) {
    for (int k = 0; k < words.size(); k++) {
      for (int end = k + 1; end <= Math.min(words.size(), k + WORDS_OF_A_QUOTATION); end++) {
        if (runs.all.contains(words.subList(k, end))) {
          Arrays.fill(quoted, k, end, true);
        }
      }
    }
  }
}
