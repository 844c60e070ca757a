import java.nio.file.Files;
import java.nio.file.Paths;
import java.util.regex.Matcher;
import java.util.regex.Pattern;

/** What a look at the text of LifeLinks.java can tell of LANGUAGE.md (rules 1 to 6, 10 to 13). */
public final class LanguageTest {
  private static final String[] FORBIDDEN = {"throw", "throws", "try", "catch", "finally",
      "synchronized", "assert", "import", "package", "volatile", "native", "transient", "strictfp",
      "protected", "var", "yield", "default\\s+\\w+\\s+\\w+\\(", "System\\.(?!arraycopy)", "Thread",
      "Object", "Random", "Class", "equals\\(Object", "hashCode", "toString\\(\\)\\s*\\{",
      "addExact", "\\w+Exact", "String\\.format", "Map", "Set", "Stream"};

  public static void main(String[] args) throws Exception {
    String path = System.getProperty("lifelinks.source", "src/main/java/LifeLinks.java");
    String text = new String(Files.readAllBytes(Paths.get(path)), "UTF-8");
    String bare = withoutCommentsAndTexts(text);
    for (String word : FORBIDDEN) {
      // A word that ends within the pattern has its end there.
      String pattern = "\\b" + word + (word.matches("\\w+") ? "\\b" : "");
      Check.holds("no '" + word + "'", !Pattern.compile(pattern).matcher(bare).find());
    }
    Check.holds("no lambda", !bare.contains("->"));
    Check.holds("no method reference", !bare.contains("::"));
    Check.holds("no annotation", !bare.contains("@"));
    Check.holds("no joining by +", !Pattern.compile("\"\\s*\\+|\\+\\s*\"").matcher(bare).find());
    plainSigns(text);
    methodsAreShort(bare);
    Check.end();
  }

  private static String withoutCommentsAndTexts(String text) {
    String bare = text.replaceAll("(?s)/\\*.*?\\*/", "").replaceAll("//[^\n]*", "");
    return bare.replaceAll("\"(\\\\.|[^\"\\\\])*\"", "\"\"").replaceAll("'(\\\\.|[^'\\\\])'", "' '");
  }

  private static void plainSigns(String text) {
    boolean plain = true;
    for (int k = 0; k < text.length(); k++) {
      plain = plain && text.charAt(k) < 127 && (text.charAt(k) >= 32 || text.charAt(k) == '\n');
    }
    Check.holds("plain signs alone", plain);
  }

  private static void methodsAreShort(String bare) {
    Matcher head = Pattern.compile("(?m)^ +[\\w\\[\\] ]+\\(([^()]*)\\) \\{$").matcher(bare);
    int methods = 0;
    while (head.find()) {
      if (head.group().trim().matches("(if|for|while|switch|} else if).*")) {
        continue;
      }
      methods++;
      String indent = head.group().replaceAll("\\S.*", "");
      int end = bare.indexOf("\n" + indent + "}", head.end());
      long lines = bare.substring(head.start(), end).chars().filter(c -> c == '\n').count();
      Check.holds("short: " + head.group().trim(), end > 0 && lines <= 40);
      Check.holds("few parameters: " + head.group().trim(), head.group(1).split(",").length <= 7);
    }
    Check.holds("methods were seen", methods > 50);
  }
}
