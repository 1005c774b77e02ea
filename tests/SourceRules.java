import java.nio.file.Files;
import java.nio.file.Path;
import java.util.Set;
import java.util.TreeSet;
import java.util.regex.Matcher;
import java.util.regex.Pattern;

/** What of ../shared/LANGUAGE.md can be seen in the source's text alone. */
public final class SourceRules {
  private static int broken = 0;

  private static void rule(boolean kept, String what) {
    if (!kept) {
      broken++;
      System.out.println("LANGUAGE.md: " + what);
    }
  }

  private static Set<String> all(String text, String pattern) {
    Set<String> found = new TreeSet<>();
    Matcher m = Pattern.compile(pattern, Pattern.MULTILINE).matcher(text);
    while (m.find()) found.add(m.group(1));
    return found;
  }

  public static void main(String[] args) throws Exception {
    String whole = Files.readString(Path.of(args[0]));
    rule(whole.chars().allMatch(c -> c < 127), "signs above 126");
    String text = whole.replaceAll("(?s)/\\*.*?\\*/", "").replaceAll("//[^\n]*", "");
    for (String word : new String[] {"->", "::", "throw", "catch", "try", "finally", "synchronized", "assert", "instanceof",
        "package", "Object", "static {", "Collections", "while (true)", "for (;;)", "equals", "hashCode", "toString", "protected"})
      rule(!Pattern.compile((Character.isLetter(word.charAt(0)) ? "\\b" : "") + Pattern.quote(word)).matcher(text).find(), word);
    Set<String> imports = all(text, "^import ([^;]+);");
    rule(imports.equals(Set.of("java.util.Arrays")), "imports " + imports);
    Set<String> library = all(text, "\\b((?:System|Arrays|Math|Integer|Long)\\.\\w+)");
    Set<String> may = Set.of("System.arraycopy", "Arrays.fill", "Math.max", "Math.min", "Integer.bitCount");
    rule(may.containsAll(library), "library " + library);
    Set<String> face = all(text, "^    public \\w+ (\\w+)\\(");
    rule(face.size() == 35, "the face has " + face.size() + " methods");
    Set<String> hidden = all(text, "^\\s+(?:private )?(?:static )?(?:int|void|boolean|Plan|int\\[\\]|int\\[\\]\\[\\]) (\\w+)\\(");
    hidden.retainAll(face);
    rule(hidden.isEmpty(), "hidden methods with a name of the face: " + hidden);
    rule(all(text, "^    ((?!private |public |\\})\\S.*)$").isEmpty(), "members of the face that are neither private nor public");
    rule(all(text, "\\b(class \\w+)").size() <= 12, "classes");
    String[] lines = whole.split("\n");
    int begin = 0;
    for (int k = 0; k < lines.length; k++) {
      if (lines[k].matches("^(    |        )(?! ).*\\) \\{$")) begin = k;
      if (lines[k].matches("^(    |        )\\}$")) rule(k - begin < 60 || lines[k].equals("    }"), "a long method ends at line " + (k + 1));
      for (String list : all(lines[k], "(?:int|void|boolean) \\w+\\(([^)]*)\\) \\{"))
        rule(list.split(",").length <= 7, "more than seven parameters at line " + (k + 1));
    }
    System.out.println("source rules: " + (broken == 0 ? "kept" : broken + " broken"));
    if (broken > 0) System.exit(1);
  }
}
