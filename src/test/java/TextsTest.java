/** Texts by the thousand, each told to the program and to the Oracle: every byte at every place, every end of a tie. */
public final class TextsTest {
  private static final int PERSONS = 3;
  private static final int CALLS = 400;
  private static final Check CHECK = new Check();

  private SameParts program;
  private Oracle oracle;
  private int calls = CALLS;

  private TextsTest() { }

  public static void main(String[] args) {
    TextsTest test = new TextsTest();
    test.everyByteAtEveryPlace("b>c2*4@30-100;c>a0");
    test.everyByteAtEveryPlace("a>b0;a>c1@007-8;b>a2*9");
    test.everyEnd("a>b0", "*@01-;", 5);
    test.everyEnd("a>b0@", "0159-", 6);
    test.everyEnd("a>b0@9-", "019;", 5);
    test.everyEnd("", "ac>0;", 6);
    CHECK.end("TextsTest");
  }

  private void everyByteAtEveryPlace(String text) {
    for (int at = 0; at <= text.length(); at++) {
      tell(text.substring(0, at));
      for (int one = 0; one < 256; one++) {
        tell(text.substring(0, at) + (char) one + text.substring(at));
        if (at < text.length()) {
          tell(text.substring(0, at) + (char) one + text.substring(at + 1));
        }
      }
    }
  }

  private void everyEnd(String text, String signs, int more) {
    tell(text);
    for (int i = 0; more > 0 && i < signs.length(); i++) {
      everyEnd(text + signs.charAt(i), signs, more - 1);
    }
  }

  private void tell(String text) {
    if (calls + text.length() + 6 > CALLS) {
      program = new SameParts();
      oracle = new Oracle();
      program.persons(PERSONS);
      oracle.persons(PERSONS);
      calls = 0;
    }
    calls += text.length() + 6;
    for (int i = 0; i < text.length(); i++) {
      program.feed(1, text.charAt(i));
      oracle.feed(1, text.charAt(i));
    }
    CHECK.due("ties of \"" + text + "\"", program.ties(), oracle.ties());
    CHECK.due("told by \"" + text + "\"", program.count(1), oracle.count(1));
    CHECK.due("there by \"" + text + "\"", program.count(2), oracle.count(2));
    for (int i = oracle.count(1); i > 0; i--) {
      CHECK.due("untie behind \"" + text + "\"", program.untie(0), oracle.untie(0));
    }
  }
}
