import java.io.IOException;
import java.lang.management.ManagementFactory;
import java.lang.reflect.Constructor;
import java.lang.reflect.Field;
import java.lang.reflect.Method;
import java.lang.reflect.Modifier;
import java.nio.file.Files;
import java.nio.file.Path;
import java.util.ArrayList;
import java.util.Arrays;
import java.util.List;
import java.util.Set;
import java.util.TreeSet;
import java.util.regex.Matcher;
import java.util.regex.Pattern;

/** The face of the document, and what of the language's rules a look at the source and a run can tell. */
public final class RulesTest {
  private static final Path SOURCE = Path.of("src/main/java/SameParts.java");
  private static final Check CHECK = new Check();

  private RulesTest() { }

  public static void main(String[] args) throws IOException {
    face();
    membersHidden();
    sizes();
    source();
    methodsShort();
    callsMakeNothing();
    CHECK.end("RulesTest");
  }

  private static void face() {
    String[] face = {
      "persons(int)", "mark(int,int)", "year(int)", "feed(int,long)", "ties()", "untie(int)", "tie(int,int,int)",
      "degree(int,int,boolean)", "parting(int)", "judge(int,int)", "coarsest(int,int)", "renamings()",
      "moves(int,int)", "orbits()", "form()", "next(int,int)", "all(int)", "join(int,int)", "meet(int,int)",
      "picture(int,int,int,int)", "wrong(int)", "least(int,int)", "spoils(int,int)", "newcomer(int,int,boolean)",
      "fits(int)", "gone()", "shift(int,int,int)", "stays(int,int)", "count(int)"};
    Set<String> found = new TreeSet<>();
    for (Method method : SameParts.class.getDeclaredMethods()) {
      if (Modifier.isPublic(method.getModifiers())) {
        String types = String.join(",", Arrays.stream(method.getParameterTypes()).map(Class::getName).toList());
        found.add(method.getName() + "(" + types + ")");
        CHECK.due(method + " answers an int", method.getReturnType() == int.class ? 1 : 0, 1);
      }
    }
    CHECK.due("the face is the document's: " + found, found.equals(new TreeSet<>(Arrays.asList(face))) ? 1 : 0, 1);
    CHECK.due("final", Modifier.isFinal(SameParts.class.getModifiers()) ? 1 : 0, 1);
    Constructor<?>[] constructors = SameParts.class.getDeclaredConstructors();
    CHECK.due("one constructor", constructors.length, 1);
  }

  private static void membersHidden() {
    Set<String> names = new TreeSet<>();
    for (Method method : SameParts.class.getDeclaredMethods()) {
      if (Modifier.isPublic(method.getModifiers())) {
        names.add(method.getName());
      }
    }
    for (Field field : SameParts.class.getDeclaredFields()) {
      CHECK.due("private " + field, Modifier.isPrivate(field.getModifiers()) ? 1 : 0, 1);
    }
    for (Method method : SameParts.class.getDeclaredMethods()) {
      boolean open = Modifier.isPublic(method.getModifiers());
      CHECK.due("private " + method, open || Modifier.isPrivate(method.getModifiers()) ? 1 : 0, 1);
      CHECK.due("own name " + method, open || !names.contains(method.getName()) ? 1 : 0, 1);
    }
    for (Class<?> inner : SameParts.class.getDeclaredClasses()) {
      CHECK.due("static " + inner, Modifier.isStatic(inner.getModifiers()) ? 1 : 0, 1);
      for (Method method : inner.getDeclaredMethods()) {
        CHECK.due("own name " + method, names.contains(method.getName()) ? 1 : 0, 0);
      }
    }
  }

  /** "at most seven parameters", "some twelve classes, and a class some twenty fields beside its constants" */
  private static void sizes() {
    List<Class<?>> classes = new ArrayList<>(List.of(SameParts.class.getDeclaredClasses()));
    classes.add(SameParts.class);
    CHECK.due("classes", classes.size() <= 12 ? 1 : 0, 1);
    for (Class<?> one : classes) {
      int fields = 0;
      for (Field field : one.getDeclaredFields()) {
        boolean constant = Modifier.isStatic(field.getModifiers());
        CHECK.due("static and final " + field, !constant || Modifier.isFinal(field.getModifiers()) ? 1 : 0, 1);
        CHECK.due("a constant is a number " + field, !constant || field.getType().isPrimitive() ? 1 : 0, 1);
        fields += constant ? 0 : 1;
      }
      CHECK.due("fields of " + one, fields <= 20 ? 1 : 0, 1);
      for (Method method : one.getDeclaredMethods()) {
        CHECK.due("parameters of " + method, method.getParameterCount() <= 7 ? 1 : 0, 1);
      }
    }
  }

  private static void source() throws IOException {
    String code = Files.readString(SOURCE).replaceAll("(?s)/\\*.*?\\*/|//[^\n]*", "");
    String[] words = {"throw", "throws", "try", "catch", "synchronized", "assert", "import", "package", "instanceof",
      "protected", "Object", "System", "Random", "Thread", "toString", "equals", "hashCode"};
    for (String word : words) {
      CHECK.due("no " + word, Pattern.compile("\\b" + word + "\\b").matcher(code).find() ? 1 : 0, 0);
    }
    CHECK.due("no lambda, no method reference", code.contains("->") || code.contains("::") ? 1 : 0, 0);
    Matcher math = Pattern.compile("Math\\.(\\w+)").matcher(code);
    while (math.find()) {
      CHECK.due("Math." + math.group(1), Set.of("min", "max").contains(math.group(1)) ? 1 : 0, 1);
    }
    Matcher index = Pattern.compile("\\b[a-z]\\w*\\[[^\\]]+\\]").matcher(code.replaceAll("new int\\[[^\\]]*\\]", ""));
    int bare = 0;
    while (index.find()) {
      bare++;
    }
    CHECK.due("an index stands only where it is tested: at, put, wipe, strength", bare, 4);
  }

  private static void methodsShort() throws IOException {
    int start = 0;
    int line = 0;
    for (String text : Files.readAllLines(SOURCE)) {
      line++;
      if (text.matches("  (  )?(public|private) .*\\) \\{")) {
        start = line;
      }
      if (text.matches("  (  )?\\}") && start > 0) {
        CHECK.due("a method's lines at " + start, line - start < 60 ? 1 : 0, 1);
        start = 0;
      }
    }
  }

  /** All calls of one run live in one room that is never swept. The machine may add some of its own, not always. */
  private static void callsMakeNothing() {
    SameParts town = Check.town(7, "a>b0;b>c0*3;c>d1;d>e2;e>f0;f>g0;g>a0@1-3");
    var meter = (com.sun.management.ThreadMXBean) ManagementFactory.getThreadMXBean();
    long own = Thread.currentThread().getId();
    long least = Long.MAX_VALUE;
    for (int i = 0; i < 10; i++) {
      long start = meter.getThreadAllocatedBytes(own);
      long before = meter.getThreadAllocatedBytes(own);
      askAll(town);
      long behind = meter.getThreadAllocatedBytes(own);
      least = Math.min(least, behind - before - (before - start));
    }
    CHECK.due("bytes that the calls make", least <= 0 ? 0 : least, 0);
  }

  private static void askAll(SameParts town) {
    for (int kind = 0; kind < 5; kind++) {
      town.all(kind);
      town.next(kind, 12);
      town.coarsest(0, kind);
      town.judge(0, kind);
      town.shift(0, 2, kind);
      town.stays(0, kind);
    }
    town.feed(4, 0x30623e61);
    town.ties();
    town.untie(0);
    town.renamings();
    town.moves(0, 6);
    town.orbits();
    town.form();
    town.join(0, 12);
    town.meet(0, 12);
    town.picture(12, 0, 1, 0);
    town.wrong(12);
    town.least(3, 2);
    town.spoils(12, 1);
    town.newcomer(0, 1, true);
    town.fits(12);
    town.gone();
    town.count(2);
    town.degree(0, 1, true);
    town.tie(0, 0, 1);
    town.mark(0, 0);
    town.year(0);
    town.persons(8);
  }
}
