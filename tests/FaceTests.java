import java.lang.reflect.Constructor;
import java.lang.reflect.Field;
import java.lang.reflect.Member;
import java.lang.reflect.Method;
import java.lang.reflect.Modifier;
import java.nio.file.Files;
import java.nio.file.Path;
import java.util.StringJoiner;
import java.util.TreeSet;
import java.util.regex.Matcher;
import java.util.regex.Pattern;

/** Whether the class has the face that the document shows, and no more: FaceTests DOCUMENT. */
public final class FaceTests extends Kit {
  private static TreeSet<String> inTheDocument(String whole) {
    String face = whole.substring(whole.indexOf("```java") + 7, whole.indexOf("```", whole.indexOf("```java") + 7));
    TreeSet<String> all = new TreeSet<>();
    Matcher constants = Pattern.compile("(\\w+) = (-\\d+)").matcher(face);
    while (constants.find()) all.add("int " + constants.group(1) + " = " + constants.group(2));
    Matcher calls = Pattern.compile("public ((?:int )?\\w+)\\(([^)]*)\\);").matcher(face);
    while (calls.find()) all.add(calls.group(1) + "(" + calls.group(2).replaceAll(" \\w+(,|$)", "$1") + ")");
    return all;
  }

  private static boolean isShown(Member m) {
    return !Modifier.isPrivate(m.getModifiers()) && !m.isSynthetic();
  }

  private static String types(Class<?>[] all) {
    StringJoiner row = new StringJoiner(", ", "(", ")");
    for (Class<?> type : all) row.add(type.getSimpleName());
    return row.toString();
  }

  private static TreeSet<String> inTheClass() throws Exception {
    TreeSet<String> all = new TreeSet<>();
    for (Field f : BackStairs.class.getDeclaredFields()) {
      if (!isShown(f)) continue;
      due(f.getName() + " is public static final", f.getModifiers(), Modifier.PUBLIC | Modifier.STATIC | Modifier.FINAL);
      all.add(f.getType().getSimpleName() + " " + f.getName() + " = " + f.get(null));
    }
    for (Constructor<?> c : BackStairs.class.getDeclaredConstructors()) {
      if (!isShown(c)) continue;
      due("the constructor is public", c.getModifiers(), Modifier.PUBLIC);
      all.add(BackStairs.class.getSimpleName() + types(c.getParameterTypes()));
    }
    for (Method m : BackStairs.class.getDeclaredMethods()) {
      if (!isShown(m)) continue;
      due(m.getName() + " is public", m.getModifiers(), Modifier.PUBLIC);
      all.add(m.getReturnType().getSimpleName() + " " + m.getName() + types(m.getParameterTypes()));
    }
    return all;
  }

  public static void main(String[] args) throws Exception {
    due("the class is public and final", BackStairs.class.getModifiers(), Modifier.PUBLIC | Modifier.FINAL);
    TreeSet<String> want = inTheDocument(Files.readString(Path.of(args[0])));
    TreeSet<String> got = inTheClass();
    due("how many the document shows", want.size(), 8 + 1 + 35);
    dueText("the face", got.toString(), want.toString());
    for (Class<?> inside : BackStairs.class.getDeclaredClasses()) {
      due(inside.getSimpleName() + " is static", Modifier.isStatic(inside.getModifiers()) ? 1 : 0, 1);
      due(inside.getSimpleName() + " is hidden", Modifier.isPublic(inside.getModifiers()) || Modifier.isProtected(inside.getModifiers()) ? 1 : 0, 0);
    }
    finish("face");
  }
}
