import java.lang.reflect.Constructor;
import java.lang.reflect.Field;
import java.lang.reflect.Method;
import java.lang.reflect.Modifier;
import java.nio.file.Files;
import java.nio.file.Paths;
import java.util.Arrays;
import java.util.HashSet;
import java.util.Set;
import java.util.TreeSet;

/** "The public face": just what the document shows (LANGUAGE.md, rules 1, 2 and 5). */
public final class FaceTest {
  private static final String[] METHODS = {"int letter(int)", "int blank()", "int fault()",
      "int enter()", "int entry(int,int)", "int sign(int,int)", "int as(int,int)",
      "int strike(int)", "int age(int,int)", "int part(int,int)", "int bound(int,int)",
      "int two(int,int,int)", "int fits(int)", "int nearest(int)", "int lives(int)",
      "int life(int,int)", "int wedding(int,int)", "int worth(int,int)", "int mate(int)",
      "int count(int)", "long digest()"};
  private static final String[] CONSTANTS = {"NONE", "UNKNOWN", "OUTSIDE", "STATE", "FULL"};
  private static final String[] HEADS = {"texts", "entries", "two entries", "lives",
      "what is told of all"};
  private static final String[][] BEHIND_HEADS = {{"letter", "blank", "fault", "enter"},
      {"entry", "sign", "as", "strike", "age", "part", "bound"}, {"two", "fits", "nearest"},
      {"lives", "life", "wedding", "worth", "mate"}, {"count", "digest"}};

  public static void main(String[] args) throws Exception {
    String path = System.getProperty("lifelinks.source", "src/main/java/LifeLinks.java");
    String source = new String(Files.readAllBytes(Paths.get(path)), "UTF-8");
    shownInOrder(source);
    theInterfaceSays(source);
    constants();
    methods();
    otherMembers();
    classesInside();
    Check.end();
  }

  /**
   * "public final class LifeLinks { public static final int NONE = -1, UNKNOWN = -101, OUTSIDE =
   * -102, STATE = -103, FULL = -104; public LifeLinks(); public int letter(int code); public int
   * blank(); public int fault(); public int enter(); public int entry(int entry, int what); public
   * int sign(int entry, int place); public int as(int entry, int kind); public int strike(int entry);
   * public int age(int entry, int age); public int part(int one, int other); public int bound(int
   * what, int v); public int two(int one, int other, int what); public int fits(int entry); public
   * int nearest(int entry); public int lives(int what); public int life(int life, int what); public
   * int wedding(int life, int place); public int worth(int entry, int life); public int mate(int
   * entry); public int count(int what); public long digest(); }"
   */
  private static void shownInOrder(String source) {
    String[] face = {"public final class LifeLinks {",
        "public static final int NONE = -1, UNKNOWN = -101, OUTSIDE = -102, STATE = -103, FULL = -104;",
        "public LifeLinks()", "public int letter(int code)", "public int blank()",
        "public int fault()", "public int enter()", "public int entry(int entry, int what)",
        "public int sign(int entry, int place)", "public int as(int entry, int kind)",
        "public int strike(int entry)", "public int age(int entry, int age)",
        "public int part(int one, int other)", "public int bound(int what, int v)",
        "public int two(int one, int other, int what)", "public int fits(int entry)",
        "public int nearest(int entry)", "public int lives(int what)",
        "public int life(int life, int what)", "public int wedding(int life, int place)",
        "public int worth(int entry, int life)", "public int mate(int entry)",
        "public int count(int what)", "public long digest()"};
    int at = 0;
    for (String line : face) {
      int next = source.indexOf(line, at);
      Check.holds("'" + line + "' stands there, in order", next >= at);
      at = Math.max(at, next);
    }
    Check.due("public members", source.split("\\bpublic ").length - 1, face.length);
  }

  /**
   * "Ahead of the calls letter, blank, fault, enter the interface says: ---- texts. Ahead of the calls
   * entry, sign, as, strike, age, part, bound the interface says: ---- entries. Ahead of the calls
   * two, fits, nearest the interface says: ---- two entries. Ahead of the calls lives, life, wedding,
   * worth, mate the interface says: ---- lives. Ahead of the calls count, digest the interface says:
   * ---- what is told of all."
   */
  private static void theInterfaceSays(String source) {
    for (int k = 0; k < HEADS.length; k++) {
      int head = source.indexOf("  // ---- " + HEADS[k] + "\n");
      int next = source.indexOf("  // ---- ", head + 1);
      Check.holds("---- " + HEADS[k], head >= 0 && next > head);
      String part = source.substring(Math.max(0, head), Math.max(0, next));
      for (String name : BEHIND_HEADS[k]) {
        Check.holds(name + " stands behind it",
            part.contains("public int " + name + "(") || part.contains("public long " + name + "("));
      }
      Check.due("calls behind it", part.split("\\bpublic ").length - 1, BEHIND_HEADS[k].length);
    }
  }

  private static void constants() {
    Check.due("NONE", LifeLinks.NONE, -1);
    Check.due("UNKNOWN", LifeLinks.UNKNOWN, -101);
    Check.due("OUTSIDE", LifeLinks.OUTSIDE, -102);
    Check.due("STATE", LifeLinks.STATE, -103);
    Check.due("FULL", LifeLinks.FULL, -104);
    Set<String> seen = new TreeSet<>();
    for (Field field : LifeLinks.class.getDeclaredFields()) {
      int flags = field.getModifiers();
      if (!Modifier.isPrivate(flags)) {
        seen.add(field.getName());
        Check.holds(field + " is a constant", Modifier.isPublic(flags)
            && Modifier.isStatic(flags) && Modifier.isFinal(flags));
      }
    }
    Check.holds("the constants " + seen, seen.equals(new TreeSet<>(Arrays.asList(CONSTANTS))));
  }

  private static void methods() {
    Set<String> seen = new TreeSet<>();
    for (Method method : LifeLinks.class.getDeclaredMethods()) {
      if (!Modifier.isPrivate(method.getModifiers())) {
        Check.holds(method + " is public", Modifier.isPublic(method.getModifiers()));
        String whole = method.toString();
        seen.add(whole.substring("public ".length()).replace("LifeLinks.", ""));
      }
    }
    Check.holds("the methods " + seen, seen.equals(new TreeSet<>(Arrays.asList(METHODS))));
  }

  private static void otherMembers() {
    int flags = LifeLinks.class.getModifiers();
    Check.holds("public and final", Modifier.isPublic(flags) && Modifier.isFinal(flags));
    Constructor<?>[] constructors = LifeLinks.class.getDeclaredConstructors();
    Check.due("constructors", constructors.length, 1);
    Check.holds("the constructor", Modifier.isPublic(constructors[0].getModifiers())
        && constructors[0].getParameterCount() == 0);
  }

  private static Set<String> publicNames() {
    Set<String> names = new HashSet<>();
    for (String method : METHODS) {
      names.add(method.substring(method.indexOf(' ') + 1, method.indexOf('(')));
    }
    return names;
  }

  private static void classesInside() {
    Class<?>[] inside = LifeLinks.class.getDeclaredClasses();
    Check.holds("some twelve classes", inside.length <= 11);
    for (Class<?> one : inside) {
      int flags = one.getModifiers();
      Check.holds(one + " is static", Modifier.isStatic(flags));
      Check.holds(one + " is hidden", !Modifier.isPublic(flags) && !Modifier.isProtected(flags));
      for (Method method : one.getDeclaredMethods()) {
        Check.holds(method + " has a name of its own", !publicNames().contains(method.getName()));
      }
      for (Field field : one.getDeclaredFields()) {
        int kind = field.getModifiers();
        Check.holds(field + ", if static, is final",
            !Modifier.isStatic(kind) || Modifier.isFinal(kind));
      }
    }
    for (Method method : LifeLinks.class.getDeclaredMethods()) {
      boolean hidden = Modifier.isPrivate(method.getModifiers());
      Check.holds(method + ", if private, has a name of its own",
          !hidden || !publicNames().contains(method.getName()));
    }
  }
}
