/** Counts the answers that are not due, and makes small towns of texts. */
final class Check {
  private int asked = 0;
  private int wrong = 0;

  void due(String call, long got, long want) {
    asked++;
    if (got != want) {
      wrong++;
      System.out.println(call + " answered " + got + ", due is " + want);
    }
  }

  /** Ends the program: with exit code 1 if an answer was not due, or none was asked for. */
  void end(String name) {
    System.out.println(name + ": " + asked + " answers, " + wrong + " of them wrong");
    System.exit(wrong == 0 && asked > 0 ? 0 : 1);
  }

  static SameParts town(int persons, String text) {
    SameParts town = new SameParts();
    town.persons(persons);
    if (!text.isEmpty() && say(town, text) < 1) {
      throw new IllegalStateException("the test's own text has a fault: " + text);
    }
    return town;
  }

  /** What ties() answers when the text has come. */
  static int say(SameParts town, String text) {
    put(town, text);
    return town.ties();
  }

  static void put(SameParts town, String text) {
    for (int at = 0; at < text.length(); at += 8) {
      String some = text.substring(at, Math.min(text.length(), at + 8));
      town.feed(some.length(), packed(some));
    }
  }

  static long packed(String some) {
    long bytes = 0;
    for (int i = some.length() - 1; i >= 0; i--) {
      bytes = bytes << 8 | some.charAt(i) & 255;
    }
    return bytes;
  }
}
