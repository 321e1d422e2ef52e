import java.lang.reflect.Executable;
import java.lang.reflect.Field;
import java.lang.reflect.Method;
import java.lang.reflect.Modifier;
import java.nio.file.Files;
import java.nio.file.Path;
import java.util.ArrayList;
import java.util.Arrays;
import java.util.List;
import java.util.Map;
import java.util.Set;
import java.util.TreeMap;
import java.util.TreeSet;
import java.util.regex.Matcher;
import java.util.regex.Pattern;

/** Rules of LANGUAGE.md that can be seen by reflection or in the source's words; run from the project's root. */
public final class LanguageTest {
  private static final Set<String> FACE = new TreeSet<>(Arrays.asList(
      "write(long,int)", "erase()", "fault()", "land()", "place(int,int)", "flow(int,int)", "way(int,int,int)",
      "blade(int,int,int,int,int)", "rim(int,int,int)", "measure(int,int,int)", "of(int,int)", "off(int,int)",
      "can(int)", "named(int)", "strike(int,int)", "undo(int)", "span(int,int)", "heirloom(int)", "from(int)",
      "chain(int)", "legs(int,int,int,boolean,int)", "reach(int,int,boolean,int)", "boats()", "sea()", "next()",
      "counts(int,int,int,int)", "miss(int,int,int)", "law(int,int)", "dated(int,int)", "learnt(int,int)", "count(int)"));
  private static final Set<String> CONSTANTS = new TreeSet<>(Arrays.asList("NONE", "UNKNOWN", "OUTSIDE", "NOT", "FULL"));
  private static final int MOST_LINES = 60;
  private static final int MOST_PARAMETERS = 7;
  private static final int MOST_CLASSES = 12;
  private static final int MOST_FIELDS = 20;
  private static final int MOST_DEPTH = 8;
  private static int wrong = 0;

  private static void check(boolean holds, String rule) {
    if (!holds) {
      wrong++;
      System.out.println("LANGUAGE.md: " + rule);
    }
  }

  public static void main(String[] args) throws Exception {
    checkFace();
    List<Class<?>> all = new ArrayList<>(Arrays.asList(BlackGlass.class.getDeclaredClasses()));
    for (Class<?> inside : all) check(Modifier.isStatic(inside.getModifiers()), "2: not static: " + inside);
    all.add(BlackGlass.class);
    check(all.size() <= MOST_CLASSES, "11: too many classes: " + all.size());
    for (Class<?> each : all) checkClass(each);
    checkSource(Files.readString(Path.of("src/main/java/BlackGlass.java")));
    System.out.println(wrong == 0 ? "the rules that were looked at are kept" : wrong + " rules are broken");
    if (wrong != 0) System.exit(1);
  }

  private static void checkFace() {
    Set<String> seen = new TreeSet<>();
    Set<String> names = new TreeSet<>();
    for (Method m : BlackGlass.class.getDeclaredMethods()) {
      if (Modifier.isPrivate(m.getModifiers())) continue;
      StringBuilder words = new StringBuilder(m.getName()).append('(');
      for (Class<?> p : m.getParameterTypes()) words.append(words.charAt(words.length() - 1) == '(' ? "" : ",").append(p.getName());
      seen.add(words.append(')').toString());
      names.add(m.getName());
      check(m.getReturnType() == int.class, "1: " + m.getName() + " doesn't answer an int");
      check(Modifier.isPublic(m.getModifiers()) && !Modifier.isStatic(m.getModifiers()), "1: " + m.getName());
    }
    check(seen.equals(FACE), "1: the face is " + seen);
    for (Method m : BlackGlass.class.getDeclaredMethods()) {
      check(!Modifier.isPrivate(m.getModifiers()) || !names.contains(m.getName()), "1: private and public: " + m.getName());
    }
    Set<String> constants = new TreeSet<>();
    for (Field f : BlackGlass.class.getDeclaredFields()) if (!Modifier.isPrivate(f.getModifiers())) constants.add(f.getName());
    check(constants.equals(CONSTANTS), "1: the constants are " + constants);
    int how = BlackGlass.class.getModifiers();
    check(Modifier.isFinal(how) && Modifier.isPublic(how), "1: the class is public and final");
    check(BlackGlass.class.getConstructors().length == 1 && BlackGlass.class.getDeclaredConstructors().length == 1, "1: constructor");
  }

  private static void checkClass(Class<?> each) {
    int fields = 0;
    for (Field f : each.getDeclaredFields()) {
      if (!Modifier.isStatic(f.getModifiers())) fields++;
      else check(Modifier.isFinal(f.getModifiers()), "5: not final: " + f);
    }
    check(fields <= MOST_FIELDS, "11: too many fields: " + each);
    List<Executable> calls = new ArrayList<>(Arrays.asList(each.getDeclaredMethods()));
    calls.addAll(Arrays.asList(each.getDeclaredConstructors()));
    for (Executable call : calls) {
      check(call.getParameterCount() <= MOST_PARAMETERS, "11: too many parameters: " + call);
      check(!call.isSynthetic(), "2: made by the compiler: " + call);
    }
  }

  private static void checkSource(String source) {
    for (int i = 0; i < source.length(); i++) check(source.charAt(i) < 128 && source.charAt(i) > 0, "4: a sign at " + i);
    String bare = source.replaceAll("(?s)/\\*.*?\\*/", "").replaceAll("//[^\n]*", "").replaceAll("\"[^\"\n]*\"", "\"\"");
    Matcher word = Pattern.compile("\\b(throw|throws|try|catch|synchronized|assert|import|package|float|double|var|Object|toString|hashCode)\\b|->|::").matcher(bare);
    while (word.find()) check(false, "3, 4, 6: " + word.group());
    checkMethods(source.split("\n"));
    checkDepth(bare.split("\n"));
  }

  /** Rules 8 and 11: which methods call which, by their names; no recursion, and no row of calls deeper than eight. */
  private static void checkDepth(String[] lines) {
    Map<String, Set<String>> calls = new TreeMap<>();
    Pattern head = Pattern.compile("^( {4}| {8})(?! )[A-Za-z][A-Za-z\\[\\] ]* ([a-z][A-Za-z]*)\\([^()]*\\) \\{$");
    for (int i = 0; i < lines.length; i++) {
      Matcher m = head.matcher(lines[i]);
      if (!m.matches()) continue;
      Set<String> called = calls.computeIfAbsent(m.group(2), name -> new TreeSet<>());
      for (int j = i + 1; j < lines.length && !lines[j].equals(m.group(1) + "}"); j++) {
        Matcher call = Pattern.compile("(?<!Math\\.|Integer\\.)\\b([a-z][A-Za-z]*)\\(").matcher(lines[j]);
        while (call.find()) called.add(call.group(1));
      }
    }
    check(calls.size() > 2 * FACE.size(), "8, 11: too few methods were seen: " + calls.size());
    for (String name : calls.keySet()) {
      int depth = depthOf(name, calls, 0);
      check(depth <= MOST_DEPTH, "8, 11: " + name + " goes " + depth + " deep");
    }
  }

  private static int depthOf(String name, Map<String, Set<String>> calls, int above) {
    if (above > 2 * MOST_DEPTH || !calls.containsKey(name)) return above;
    int depth = above + 1;
    for (String called : calls.get(name)) depth = Math.max(depth, depthOf(called, calls, above + 1));
    return depth;
  }

  /** Methods by their indent: they begin with a line that opens a brace and end with one of the same indent. */
  private static void checkMethods(String[] lines) {
    Pattern head = Pattern.compile("^( {4}| {8})(?! )(?!.*\\bclass\\b)[A-Za-z].*\\) \\{$");
    for (int i = 0; i < lines.length; i++) {
      Matcher m = head.matcher(lines[i]);
      if (!m.matches() || m.group(1).length() == 8 && lines[i].trim().matches("(if|for|while|switch|else)\\b.*")) continue;
      String end = m.group(1) + "}";
      boolean constructor = lines[i].trim().matches("(public )?[A-Z][A-Za-z]*\\(.*");
      int j = i;
      while (j < lines.length && !lines[j].equals(end)) {
        check(constructor || !lines[j].matches(".*\\bnew\\b.*\\(.*|.*\\bnew\\b.*\\[.*"), "12: made outside a constructor, line " + (j + 1));
        j++;
      }
      check(j - i < MOST_LINES, "11: a long method at line " + (i + 1));
    }
  }
}
