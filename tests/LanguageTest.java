import java.lang.reflect.Field;
import java.lang.reflect.Modifier;
import java.nio.file.Files;
import java.nio.file.Paths;
import java.util.ArrayList;
import java.util.HashMap;
import java.util.HashSet;
import java.util.List;
import java.util.Map;
import java.util.Set;
import java.util.regex.Matcher;
import java.util.regex.Pattern;

/**
 * The rules of LANGUAGE.md, by what a look at the text of LifeLinks.java and at its class files can
 * tell. The first rule is FaceTest's, the seventh RefusalsTest's, the twelfth RoomTest's, too.
 */
public final class LanguageTest {
  // Rules 2, 4, 6, 8, 9, 13: words that the program does without.
  private static final String[] FORBIDDEN = {"throw", "throws", "try", "catch", "finally",
      "synchronized", "assert", "import", "package", "volatile", "native", "transient", "strictfp",
      "protected", "var", "yield", "default\\s+\\w+\\s+\\w+\\(", "System\\.(?!arraycopy)", "Thread",
      "Object", "Random", "Class", "equals\\(Object", "hashCode", "toString\\(\\)\\s*\\{",
      "addExact", "\\w+Exact", "String\\.format", "Map", "Set", "Stream", "while", "do", "goto",
      "double", "float", "instanceof", "enum", "record", "interface", "abstract", "extends",
      "implements", "super"};
  // Rule 4: what the program takes of the library; all of it stands in the rule.
  private static final String[] LIBRARY = {"java/lang/Object.<init>()V",
      "java/lang/String.length()I", "java/lang/String.charAt(I)C", "java/lang/Math.max(II)I",
      "java/lang/Math.min(II)I", "java/lang/Integer.bitCount(I)I"};
  private static final int LONGEST_METHOD = 60;
  private static final int MOST_PARAMETERS = 7;
  private static final int MOST_CLASSES = 12;
  private static final int MOST_FIELDS = 20;
  private static final int DEEPEST = 8;

  // All that work on doubles or floats, or make numbers of them.
  private static final int[] OF_DOUBLES = {0x0b, 0x0c, 0x0d, 0x0e, 0x0f, 0x62, 0x63, 0x66, 0x67,
      0x6a, 0x6b, 0x6e, 0x6f, 0x72, 0x73, 0x76, 0x77, 0x86, 0x87, 0x89, 0x8a, 0x8b, 0x8c, 0x8d,
      0x8e, 0x8f, 0x90, 0x95, 0x96, 0x97, 0x98};
  private static final int INVOKE_DYNAMIC = 0xba;
  private static final int NEW = 0xbb;
  private static final int NEW_ARRAY = 0xbc;
  private static final int NEW_ROW_OF_OBJECTS = 0xbd;
  private static final int THROW = 0xbf;
  private static final int CAST = 0xc0;
  private static final int ENTER_MONITOR = 0xc2;
  private static final int NEW_TABLE = 0xc5;

  private final String text;
  private final String bare;
  private final List<Class<?>> classes = new ArrayList<>();
  private final List<ClassFile> files = new ArrayList<>();
  private final Map<String, ClassFile.Code> methods = new HashMap<>();

  private LanguageTest(String text) throws Exception {
    this.text = text;
    bare = withoutCommentsAndTexts(text);
    for (Class<?> one : LifeLinks.class.getNestMembers()) {
      classes.add(one);
      ClassFile file = ClassFile.of(one);
      files.add(file);
      for (ClassFile.Code method : file.methods) {
        methods.put(method.name, method);
      }
    }
  }

  public static void main(String[] args) throws Exception {
    String path = System.getProperty("lifelinks.source", "src/main/java/LifeLinks.java");
    LanguageTest test = new LanguageTest(new String(Files.readAllBytes(Paths.get(path)), "UTF-8"));
    test.classFilesWereRead();
    test.wordsThatAreNotUsed();
    test.rule2ClassesInside();
    test.rule3Types();
    test.rule4Library();
    test.rule5StaticFields();
    test.rule6NothingThrown();
    test.rule8NoRecursion();
    test.rule9LoopsEnd();
    test.rule10Statements();
    test.rule11MethodsAreShort();
    test.rule11HowMany();
    test.rule12MadeInConstructorsAlone();
    Check.end();
  }

  private static String withoutCommentsAndTexts(String text) {
    String bare = text.replaceAll("(?s)/\\*.*?\\*/", "").replaceAll("//[^\n]*", "");
    return bare.replaceAll("\"(\\\\.|[^\"\\\\])*\"", "\"\"").replaceAll("'(\\\\.|[^'\\\\])'", "' '");
  }

  private static boolean isConstructor(ClassFile.Code method) {
    return method.name.contains(".<init>(");
  }

  private void classFilesWereRead() {
    Check.holds("methods were seen: " + methods.size(), methods.size() > 80);
    ClassFile.Code digest = methods.get("LifeLinks.digest()J");
    Check.holds("digest() is seen to call settle()",
        digest != null && digest.calls.contains("LifeLinks.settle()V"));
  }

  private void wordsThatAreNotUsed() {
    for (String word : FORBIDDEN) {
      // A word that ends within the pattern has its end there.
      String pattern = "\\b" + word + (word.matches("\\w+") ? "\\b" : "");
      Check.holds("no '" + word + "'", !Pattern.compile(pattern).matcher(bare).find());
    }
    Check.holds("no lambda", !bare.contains("->"));
    Check.holds("no method reference", !bare.contains("::"));
    Check.holds("no annotation", !bare.contains("@"));
  }

  /** "static nested classes", "no local or anonymous class". */
  private void rule2ClassesInside() {
    for (Class<?> one : classes) {
      boolean inside = one.isMemberClass() && Modifier.isStatic(one.getModifiers());
      Check.holds(one + " is static, with a name", one == LifeLinks.class || inside);
      Check.holds(one + " is a class", !one.isEnum() && !one.isRecord() && !one.isInterface());
    }
    Check.due("classes inside", classes.size(), LifeLinks.class.getDeclaredClasses().length + 1);
  }

  /**
   * "int, long, .. boolean ..; arrays of these and of your own classes, of one dimension, and arrays
   * of two dimensions of numbers; .. String": and no double, so none that is NaN.
   */
  private void rule3Types() {
    Pattern type = Pattern.compile("[VIJZ]|\\[{1,2}[IJ]|\\[?LLifeLinks\\$\\w+;|Ljava/lang/String;");
    for (ClassFile file : files) {
      for (String descriptor : file.descriptors) {
        String rest = type.matcher(descriptor.replaceAll("[()]", "")).replaceAll("");
        Check.holds("types of " + file.name + ": " + descriptor, rest.isEmpty());
      }
    }
    for (ClassFile.Code method : methods.values()) {
      for (int instruction : OF_DOUBLES) {
        Check.holds(method.name + " has no doubles", !method.instructions.contains(instruction));
      }
    }
    for (int k = 0; k < text.length(); k++) {
      char sign = text.charAt(k);
      if (sign >= 127 || sign < 32 && sign != '\n') {
        Check.due("sign at " + k, sign, ' ');
      }
    }
  }

  /** "The library: only what stands here." */
  private void rule4Library() {
    Set<String> allowed = new HashSet<>(List.of(LIBRARY));
    for (ClassFile.Code method : methods.values()) {
      for (String call : method.calls) {
        boolean own = call.startsWith("LifeLinks.") || call.startsWith("LifeLinks$");
        Check.holds(method.name + " calls " + call, own || allowed.contains(call));
      }
    }
    for (ClassFile file : files) {
      for (String used : file.classes) {
        Check.holds(file.name + " uses " + used,
            used.matches("\\[*I?|\\[?L?LifeLinks(\\$\\w+)?;?|java/lang/(Object|String|Math|Integer)"
                + "|java/lang/invoke/.*"));
      }
    }
  }

  /** "Static fields are final: constants ..; no static initialiser block". */
  private void rule5StaticFields() {
    for (Class<?> one : classes) {
      for (Field field : one.getDeclaredFields()) {
        if (Modifier.isStatic(field.getModifiers())) {
          Check.holds(field + " is a constant", Modifier.isFinal(field.getModifiers())
              && (field.getType() == int.class || field.getType() == String.class));
        }
      }
    }
    for (String name : methods.keySet()) {
      Check.holds(name + " is no initialiser", !name.contains(".<clinit>"));
    }
  }

  /** "No throw, try, catch, synchronized, assert": and no cast. */
  private void rule6NothingThrown() {
    int[] none = {THROW, CAST, ENTER_MONITOR, INVOKE_DYNAMIC};
    for (ClassFile.Code method : methods.values()) {
      for (int instruction : none) {
        Check.holds(method.name + " without " + instruction,
            !method.instructions.contains(instruction));
      }
      Check.due("handlers of " + method.name, method.handlers, 0);
      Check.holds(method.name + " is none of those of each object",
          !method.name.matches(".*\\.(equals|hashCode|toString|clone|finalize)\\(.*"));
    }
  }

  private int depth(String name, List<String> open) {
    Check.holds("no call of itself: " + name + " in " + open, !open.contains(name));
    ClassFile.Code method = methods.get(name);
    if (method == null || open.contains(name)) {
      return 1;
    }
    open.add(name);
    int deepest = 0;
    for (String call : method.calls) {
      deepest = Math.max(deepest, depth(call, open));
    }
    open.remove(name);
    return deepest + 1;
  }

  /** "calls that are no recursion go at most eight deep": and none is one. */
  private void rule8NoRecursion() {
    for (String name : methods.keySet()) {
      int depth = depth(name, new ArrayList<>());
      Check.holds("depth of " + name + ": " + depth, depth <= DEEPEST);
    }
  }

  /** "Every loop has an end that can be seen from its own lines (a counter against a bound, ..)". */
  private void rule9LoopsEnd() {
    Matcher loop = Pattern.compile("\\bfor \\(([^{]*)\\) \\{\n").matcher(bare);
    Pattern counted = Pattern.compile(
        "int (\\w+) = [^;]+; (\\1 (<|<=) [^;]+; \\1\\+\\+|\\1 (>|>=) [^;]+; \\1--)");
    int loops = 0;
    while (loop.find()) {
      loops++;
      Matcher counter = counted.matcher(loop.group(1).replaceAll("\\s+", " "));
      Check.holds("a counter against a bound: " + loop.group(1),
          counter.matches() || loop.group(1).matches("int k = 0; k < [^;]+ && [^;]+; k\\+\\+"));
      String name = loop.group(1).replaceAll("(?s)int (\\w+) .*", "$1");
      String body = bodyBehind(loop.end());
      Check.holds("nothing else counts: " + name,
          !Pattern.compile("\\b" + name + " ([-+*/|&^]?=) |\\b" + name + "(\\+\\+|--)")
              .matcher(body).find());
    }
    Check.due("loops", loops, Pattern.compile("\\bfor\\b").matcher(bare).results().count());
  }

  /** What stands between the brace ahead of a place and the one that closes it. */
  private String bodyBehind(int start) {
    int open = 1;
    int end = start;
    while (open > 0) {
      open += bare.charAt(end) == '{' ? 1 : bare.charAt(end) == '}' ? -1 : 0;
      end++;
    }
    return bare.substring(start, end);
  }

  /** "joining texts by StringBuilder (not by +)": no text is joined at all. */
  private void rule10Statements() {
    Check.holds("no joining by +", !Pattern.compile("\"\\s*\\+|\\+\\s*\"").matcher(bare).find());
    Check.due("texts", Pattern.compile("\"\"").matcher(bare).results().count(), 1);
  }

  /** "Methods stay short (some sixty lines)", "A method takes at most seven parameters". */
  private void rule11MethodsAreShort() {
    Matcher head = Pattern.compile("(?m)^ +[\\w\\[\\] ]+\\(([^()]*)\\) \\{$").matcher(bare);
    int seen = 0;
    while (head.find()) {
      if (head.group().trim().matches("(if|for|switch|} else if).*")) {
        continue;
      }
      seen++;
      String indent = head.group().replaceAll("\\S.*", "");
      int end = bare.indexOf("\n" + indent + "}", head.end());
      long lines = bare.substring(head.start(), end).chars().filter(c -> c == '\n').count();
      Check.holds("short: " + head.group().trim(), end > 0 && lines <= LONGEST_METHOD);
    }
    Check.holds("methods were seen: " + seen, seen > 80);
    for (ClassFile.Code method : methods.values()) {
      Check.holds("parameters of " + method.name, method.parameters <= MOST_PARAMETERS);
    }
  }

  /** "the file has at most some twelve classes, and a class some twenty fields beside its constants". */
  private void rule11HowMany() {
    Check.holds("classes: " + classes.size(), classes.size() <= MOST_CLASSES);
    for (Class<?> one : classes) {
      int fields = 0;
      for (Field field : one.getDeclaredFields()) {
        fields += Modifier.isStatic(field.getModifiers()) ? 0 : 1;
      }
      Check.holds("fields of " + one + ": " + fields, fields <= MOST_FIELDS);
    }
  }

  /** "An object may be made by any method": here by constructors alone, which call nothing else. */
  private void rule12MadeInConstructorsAlone() {
    int[] making = {NEW, NEW_ARRAY, NEW_ROW_OF_OBJECTS, NEW_TABLE};
    for (ClassFile.Code method : methods.values()) {
      for (int instruction : making) {
        Check.holds(method.name + " makes nothing",
            isConstructor(method) || !method.instructions.contains(instruction));
      }
      for (String call : method.calls) {
        Check.holds(method.name + " calls constructors alone",
            !isConstructor(method) || call.contains(".<init>("));
      }
    }
  }
}
