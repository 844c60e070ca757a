import java.lang.reflect.Constructor;
import java.lang.reflect.Field;
import java.lang.reflect.Method;
import java.lang.reflect.Modifier;
import java.util.Arrays;
import java.util.HashSet;
import java.util.Set;
import java.util.TreeSet;

/** The public face: just what the document shows (LANGUAGE.md, rules 1, 2 and 5). */
public final class FaceTest {
  private static final String[] METHODS = {"int letter(int)", "int blank()", "int fault()",
      "int enter()", "int entry(int,int)", "int sign(int,int)", "int as(int,int)",
      "int strike(int)", "int age(int,int)", "int part(int,int)", "int bound(int,int)",
      "int two(int,int,int)", "int fits(int)", "int nearest(int)", "int lives(int)",
      "int life(int,int)", "int wedding(int,int)", "int worth(int,int)", "int mate(int)",
      "int count(int)", "long digest()"};
  private static final String[] CONSTANTS = {"NONE", "UNKNOWN", "OUTSIDE", "STATE", "FULL"};

  public static void main(String[] args) {
    constants();
    methods();
    otherMembers();
    classesInside();
    Check.end();
  }

  private static void constants() {
    Check.due("NONE", LifeLinks.NONE, -1);
    Check.due("UNKNOWN", LifeLinks.UNKNOWN, -101);
    Check.due("OUTSIDE", LifeLinks.OUTSIDE, -102);
    Check.due("STATE", LifeLinks.STATE, -103);
    Check.due("FULL", LifeLinks.FULL, -104);
    Set<String> seen = new TreeSet<>();
    for (Field field : LifeLinks.class.getDeclaredFields()) {
      int flags = field.getModifiers();
      if (!Modifier.isPrivate(flags)) {
        seen.add(field.getName());
        Check.holds(field + " is a constant", Modifier.isPublic(flags)
            && Modifier.isStatic(flags) && Modifier.isFinal(flags));
      }
    }
    Check.holds("the constants " + seen, seen.equals(new TreeSet<>(Arrays.asList(CONSTANTS))));
  }

  private static void methods() {
    Set<String> seen = new TreeSet<>();
    for (Method method : LifeLinks.class.getDeclaredMethods()) {
      if (!Modifier.isPrivate(method.getModifiers())) {
        Check.holds(method + " is public", Modifier.isPublic(method.getModifiers()));
        String whole = method.toString();
        seen.add(whole.substring("public ".length()).replace("LifeLinks.", ""));
      }
    }
    Check.holds("the methods " + seen, seen.equals(new TreeSet<>(Arrays.asList(METHODS))));
  }

  private static void otherMembers() {
    int flags = LifeLinks.class.getModifiers();
    Check.holds("public and final", Modifier.isPublic(flags) && Modifier.isFinal(flags));
    Constructor<?>[] constructors = LifeLinks.class.getDeclaredConstructors();
    Check.due("constructors", constructors.length, 1);
    Check.holds("the constructor", Modifier.isPublic(constructors[0].getModifiers())
        && constructors[0].getParameterCount() == 0);
  }

  private static Set<String> publicNames() {
    Set<String> names = new HashSet<>();
    for (String method : METHODS) {
      names.add(method.substring(method.indexOf(' ') + 1, method.indexOf('(')));
    }
    return names;
  }

  private static void classesInside() {
    Class<?>[] inside = LifeLinks.class.getDeclaredClasses();
    Check.holds("some twelve classes", inside.length <= 11);
    for (Class<?> one : inside) {
      int flags = one.getModifiers();
      Check.holds(one + " is static", Modifier.isStatic(flags));
      Check.holds(one + " is hidden", !Modifier.isPublic(flags) && !Modifier.isProtected(flags));
      for (Method method : one.getDeclaredMethods()) {
        Check.holds(method + " has a name of its own", !publicNames().contains(method.getName()));
      }
      for (Field field : one.getDeclaredFields()) {
        int kind = field.getModifiers();
        Check.holds(field + ", if static, is final",
            !Modifier.isStatic(kind) || Modifier.isFinal(kind));
      }
    }
    for (Method method : LifeLinks.class.getDeclaredMethods()) {
      boolean hidden = Modifier.isPrivate(method.getModifiers());
      Check.holds(method + ", if private, has a name of its own",
          !hidden || !publicNames().contains(method.getName()));
    }
  }
}
