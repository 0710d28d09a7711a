import java.lang.management.ManagementFactory;
import java.lang.reflect.Constructor;
import java.lang.reflect.Field;
import java.lang.reflect.InvocationTargetException;
import java.lang.reflect.Method;
import java.lang.reflect.Modifier;
import java.nio.file.Files;
import java.nio.file.Path;
import java.util.ArrayList;
import java.util.Arrays;
import java.util.List;
import java.util.Map;
import java.util.TreeMap;
import java.util.TreeSet;
import java.util.regex.Matcher;
import java.util.regex.Pattern;

/** The face is the document's and no more; the rules of LANGUAGE.md that can be looked up; no call throws or makes objects. */
public final class FaceAndLanguage {
  private static final String FACE = "net(int) tie(int,int,boolean) tied(int,int) askers(int,int) guess(int,int) site(int,int)"
    + " room(int,int) up(int,boolean) kind(int,int) held(int,int) near(int,boolean) late(int,int,int) rounds() comes(int)"
    + " names(int) way(int,int) told(int) why(int) load(int) excess() sum()long without(int) moves(int,int) trial()"
    + " seen(int,int,int) cases() agree() could(int) rules(int) learn() quarrel() next(boolean) best(boolean)"
    + " bestSum(boolean)long bestKind(boolean,int) aim(int,int) steps() step(int) stepWorst() go() count(int)";
  private static final String CONSTANTS = "FULL=-4 NONE=-9 OUTSIDE=-2 SPENT=-5 STATE=-3 UNKNOWN=-1";
  private static final int[] WILD = {Integer.MIN_VALUE, -10, -9, -1, 0, 1, 3, 4, 5, 9, 10, 15, 16, 1000, Integer.MAX_VALUE};
  private static final String LIBRARY = " Arrays.fill System.arraycopy Math.max Math.min Integer.bitCount Integer.numberOfTrailingZeros ";
  private static int wrong = 0;

  private static void want(boolean good, String what) {
    if (!good) {
      wrong++;
      System.out.println("not as it should be: " + what);
    }
  }

  private static String signature(Method m) {
    StringBuilder text = new StringBuilder(m.getName()).append("(");
    for (Class<?> type : m.getParameterTypes()) text.append(text.charAt(text.length() - 1) == '(' ? "" : ",").append(type);
    return text.append(")").append(m.getReturnType() == int.class ? "" : m.getReturnType()).toString();
  }

  private static void face() throws Exception {
    Class<?> c = NearCopies.class;
    want(Modifier.isPublic(c.getModifiers()) && Modifier.isFinal(c.getModifiers()), "the class is public and final");
    TreeSet<String> methods = new TreeSet<>();
    TreeSet<String> names = new TreeSet<>();
    for (Method m : c.getDeclaredMethods()) {
      if (Modifier.isPublic(m.getModifiers())) {
        methods.add(signature(m));
        names.add(m.getName());
        want(!Modifier.isStatic(m.getModifiers()), m + " is not static");
      } else {
        want(Modifier.isPrivate(m.getModifiers()), m + " is private");
      }
    }
    want(methods.equals(new TreeSet<>(Arrays.asList(FACE.split(" ")))), "the public methods are " + methods);
    TreeSet<String> constants = new TreeSet<>();
    for (Field f : c.getDeclaredFields()) {
      if (Modifier.isPublic(f.getModifiers())) constants.add(f.getName() + "=" + f.getInt(null));
      else want(Modifier.isPrivate(f.getModifiers()), f + " is private");
    }
    want(String.join(" ", constants).equals(CONSTANTS), "the public constants are " + constants);
    Constructor<?>[] makers = c.getDeclaredConstructors();
    want(makers.length == 1 && Modifier.isPublic(makers[0].getModifiers()) && makers[0].getParameterCount() == 0, "one constructor");
    want(c.getDeclaredClasses().length <= 11, "twelve classes at most");
    parts(c, names);
    for (Class<?> inner : c.getDeclaredClasses()) {
      want(Modifier.isStatic(inner.getModifiers()), inner + " is static");
      parts(inner, names);
    }
  }

  private static void parts(Class<?> c, TreeSet<String> faceNames) {
    int fields = 0;
    for (Field f : c.getDeclaredFields()) {
      if (Modifier.isStatic(f.getModifiers())) want(Modifier.isFinal(f.getModifiers()), f + " is final");
      else fields++;
    }
    want(fields <= 20, c + " has " + fields + " fields");
    for (Method m : c.getDeclaredMethods()) {
      want(m.getParameterCount() <= 7, m + " takes seven at most");
      want(c == NearCopies.class && Modifier.isPublic(m.getModifiers()) || !faceNames.contains(m.getName()), m + " bears another name");
    }
  }

  private static void language() throws Exception {
    Path file = Path.of("src/main/java/NearCopies.java");
    String text = Files.readString(file).replaceAll("(?s)/\\*.*?\\*/", "").replaceAll("//[^\n]*", "");
    String[] forbidden = {"\\bthrow\\b", "\\bthrows\\b", "\\btry\\b", "\\bcatch\\b", "\\bsynchronized\\b", "\\bassert\\b", "->", "::",
      "Exact\\b", "\\bpackage\\b", "\\bSystem\\.(?!arraycopy)", "\\bThread\\b", "\\bRandom\\b", "\\bvar\\b", "\\bObject\\b", "\\b(?:String|List)\\b",
      "\\bstatic\\s*\\{", "\\bequals\\b", "\\bhashCode\\b", "\\btoString\\b", "while\\s*\\(true\\)", "for\\s*\\(;;", "/ ", "% ", "%="};
    for (String word : forbidden) {
      Matcher m = Pattern.compile(word).matcher(text);
      if (m.find()) want(false, "the source has " + word + " near: " + text.substring(Math.max(0, m.start() - 40), m.end() + 20));
    }
    Matcher imports = Pattern.compile("import [^;]*;").matcher(text);
    while (imports.find()) want(imports.group().equals("import java.util.Arrays;"), imports.group());
    for (char sign : text.toCharArray()) want(sign < 128, "only signs below 128");
    Matcher library = Pattern.compile("\\b(Arrays|System|Math|Integer|Long)\\.(\\w+)").matcher(text);
    while (library.find()) want(LIBRARY.contains(" " + library.group() + " "), library.group() + " is none of the library's that are used");
    methods(text.split("\n"));
  }

  /** Methods of the source by name (those of one name together): what each calls, and that each stays short. */
  private static void methods(String[] lines) {
    Map<String, String> bodies = new TreeMap<>();
    for (int i = 0; i < lines.length; i++) {
      Matcher head = Pattern.compile("( {4}| {8})(?:[a-z]+ )*[A-Za-z\\[\\]]+ (\\w+)\\([^;=]*\\) \\{").matcher(lines[i]);
      if (!head.matches() || head.group(2).equals("if")) continue;
      int start = i;
      StringBuilder body = new StringBuilder();
      while (i + 1 < lines.length && !lines[i].equals(head.group(1) + "}")) body.append(lines[++i]).append('\n');
      bodies.merge(head.group(2), body.toString(), String::concat);
      want(i - start <= 60, head.group(2) + " stays short");
    }
    want(bodies.keySet().equals(methodNames()), "all methods are found: " + bodies.keySet());
    for (String name : bodies.keySet()) {
      int deep = depth(bodies, name, 1);
      want(deep <= 8, name + " goes " + deep + " calls deep");
    }
  }

  private static TreeSet<String> methodNames() {
    TreeSet<String> names = new TreeSet<>(List.of("NearCopies"));
    for (Method m : NearCopies.class.getDeclaredMethods()) names.add(m.getName());
    for (Class<?> inner : NearCopies.class.getDeclaredClasses()) for (Method m : inner.getDeclaredMethods()) names.add(m.getName());
    return names;
  }

  /** How many calls stand open at once below a method, with it; a method that calls itself never ends: far beyond eight. */
  private static int depth(Map<String, String> bodies, String name, int level) {
    int deepest = level;
    Matcher call = Pattern.compile("\\b(\\w+)\\(").matcher(bodies.get(name));
    while (call.find() && deepest < 30) {
      if (bodies.containsKey(call.group(1))) deepest = Math.max(deepest, depth(bodies, call.group(1), level + 1));
    }
    return deepest;
  }

  private static List<NearCopies> states() {
    List<NearCopies> all = new ArrayList<>();
    all.add(new NearCopies());
    NearCopies one = new NearCopies();
    one.net(1);
    all.add(one);
    NearCopies ring = new NearCopies();
    for (int i = 0; i < 4; i++) ring.net(10);
    ring.tie(2, 1, true);
    ring.tie(1, 0, true);
    ring.tie(0, 3, true);
    ring.site(2, 1);
    ring.kind(0, 2);
    ring.site(3, 1);
    ring.guess(1, 5);
    ring.trial();
    all.add(ring);
    all.add(full());
    return all;
  }

  private static NearCopies full() {
    NearCopies x = new NearCopies();
    for (int i = 0; i < 10; i++) x.net(10000);
    for (int step = 1; step < 4; step++) for (int i = 0; i + step < 10; i++) x.tie(i, i + step, step != 2);
    for (int i = 0; i < 4; i++) x.site(3 * i, 0);
    for (int i = 0; i < 4; i++) x.guess(2 * i, 15);
    for (int i = 0; i < 6; i++) {
      x.trial();
      x.seen(i, i, 4);
    }
    for (int i = 0; i < 4; i++) x.aim(i, 3);
    return x;
  }

  private static void callAll(int state, Method m, Object[] with, int at) throws Exception {
    if (at == with.length) {
      try {
        m.invoke(states().get(state), with);
      } catch (InvocationTargetException thrown) {
        want(false, m.getName() + Arrays.toString(with) + " threw " + thrown.getCause());
      }
      return;
    }
    if (m.getParameterTypes()[at] == boolean.class) {
      for (boolean b : new boolean[] {false, true}) {
        with[at] = b;
        callAll(state, m, with, at + 1);
      }
    } else {
      for (int n : WILD) {
        with[at] = n;
        callAll(state, m, with, at + 1);
      }
    }
  }

  private static void wildCalls() throws Exception {
    for (int state = 0; state < 4; state++) {
      for (Method m : NearCopies.class.getDeclaredMethods()) {
        if (Modifier.isPublic(m.getModifiers())) callAll(state, m, new Object[m.getParameterCount()], 0);
      }
    }
  }

  private static long dearCalls(NearCopies x) {
    long all = 0;
    for (int i = 0; i < 40; i++) {
      x.kind(i & 3, i % 5);
      x.seen(i % 6, i % 10, i % 3 == 0 ? i & 3 : 4);
      all += x.next(true) + x.next(false) + x.agree() + x.could(3) + x.rules(0) + x.quarrel() + x.best(true) + x.bestSum(false)
        + x.bestKind(true, 1) + x.step(0) + x.stepWorst() + x.why(9) + x.way(9, 1) + x.told(4) + x.moves(0, 1) + x.without(2);
    }
    return all;
  }

  private static void room() {
    com.sun.management.ThreadMXBean threads = (com.sun.management.ThreadMXBean) ManagementFactory.getThreadMXBean();
    dearCalls(full());
    NearCopies x = full();
    long before = threads.getCurrentThreadAllocatedBytes();
    dearCalls(x);
    long made = threads.getCurrentThreadAllocatedBytes() - before;
    want(made < 20000, "calls make no objects, but made " + made + " bytes");
  }

  public static void main(String[] args) throws Exception {
    face();
    language();
    wildCalls();
    room();
    System.out.println(wrong == 0 ? "the face and the language are as they should be" : wrong + " things are not as they should be");
    if (wrong != 0) System.exit(1);
  }
}
