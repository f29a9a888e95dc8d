import java.io.IOException;
import java.lang.reflect.Method;
import java.lang.reflect.Modifier;
import java.nio.file.Files;
import java.nio.file.Path;
import java.util.regex.Matcher;
import java.util.regex.Pattern;

/** What README.md says of the class: its example's answers, and each call with as many arguments as it takes. */
public final class ReadmeTest {
  private static final Check CHECK = new Check();

  private ReadmeTest() { }

  public static void main(String[] args) throws IOException {
    String readme = Files.readString(Path.of("README.md"));
    example(readme);
    table(readme);
    CHECK.end("ReadmeTest");
  }

  private static void example(String readme) {
    Matcher text = Pattern.compile("String text = \"(.*)\";").matcher(readme);
    CHECK.due("README.md has a text", text.find() ? 1 : 0, 1);
    SameParts town = new SameParts();
    for (char one : text.group(1).toCharArray()) {
      town.feed(1, one);
    }
    told(readme, "town.ties();", town.ties());
    told(readme, "town.coarsest(0, 1);", town.coarsest(0, 1));
    told(readme, "town.coarsest(0, 2);", town.coarsest(0, 2));
    told(readme, "town.judge(0, 1);", town.judge(0, 1));
  }

  private static void told(String readme, String call, int got) {
    Matcher line = Pattern.compile("(?m)^" + Pattern.quote(call) + " *// (-?\\d+)").matcher(readme);
    boolean found = line.find();
    CHECK.due("README.md has " + call, found ? 1 : 0, 1);
    if (found) {
      CHECK.due(call, got, Integer.parseInt(line.group(1)));
    }
  }

  private static void table(String readme) {
    for (Method method : SameParts.class.getDeclaredMethods()) {
      if (Modifier.isPublic(method.getModifiers())) {
        int many = method.getParameterCount();
        String arguments = many == 0 ? "" : "\\w+(, \\w+){" + (many - 1) + "}";
        Pattern row = Pattern.compile("(?m)^\\| [^|]*`" + method.getName() + "\\(" + arguments + "\\)`");
        CHECK.due("README.md's table has " + method, row.matcher(readme).find() ? 1 : 0, 1);
      }
    }
  }
}
