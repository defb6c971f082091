import java.util.function.IntToLongFunction;

/** What the classes of tests share: the findings, looms that are often needed, and answers that are due. */
abstract class Sentences {
  static final int BEYOND = -1000000001, FULL = -1000000002, KIND = -1000000003,
      NONE = -1000000004, STATE = -1000000005, MISSING = -1000000006, SIZE = -1000000007;
  static final int LAW = 0, EVEN = 1, LONG = 2, STEP = 3, TIGHT = 4, TURN = 5;
  static final int MIN = Integer.MIN_VALUE, MAX = Integer.MAX_VALUE;
  static int asked = 0;
  static int wrong = 0;
  static String test = "";

  static void due(String call, long got, long want) {
    asked++;
    if (got != want) {
      wrong++;
      System.out.println(test + "\n  " + call + " answered " + got + ", due is " + want);
    }
  }

  private static void dueNoFinding(String call, long got) {
    asked++;
    if (got < -1000000000L) {
      wrong++;
      System.out.println(test + "\n  " + call + " answered the finding " + got + ", due is none");
    }
  }

  /** All from low to high are taken; just outside of them, and far outside, a finding is due. */
  static void takes(String argument, int low, int high, IntToLongFunction call, int finding) {
    for (int v = low; v <= high; v++) dueNoFinding(argument + " " + v, call.applyAsLong(v));
    for (int v : new int[] {low - 1, high + 1, MIN, MAX}) {
      due(argument + " " + v, call.applyAsLong(v), finding);
    }
  }

  /** As takes(), with BEYOND as the finding that is due. */
  static void takes(String argument, int low, int high, IntToLongFunction call) {
    takes(argument, low, high, call, BEYOND);
  }

  /** Cards with these holes and nothing eaten, each picked once. */
  static LoomCards woven(int... holes) {
    LoomCards x = cards(holes);
    for (int c = 0; c < holes.length; c++) x.pick(c);
    return x;
  }

  static LoomCards cards(int... holes) {
    LoomCards x = new LoomCards();
    for (int h : holes) x.card(h, 0);
    return x;
  }

  /** Ten cards, each with a hole at hook 0, at 1, .. at 7, and two without any. */
  static LoomCards tenCards() {
    return cards(1, 2, 4, 8, 16, 32, 64, 128, 0, 0);
  }

  static void feed(LoomCards x, String text) {
    for (int i = 0; i < text.length(); i++) x.feed(text.charAt(i), 1);
  }

  static int loom(LoomCards x, String text) {
    x.wipe();
    feed(x, text);
    return x.loom();
  }

  /** The text has its first wrong token at this place; it comes to a new loom. */
  static void fault(String text, int place) {
    fault(new LoomCards(), text, place);
  }

  static void fault(LoomCards x, String text, int place) {
    due("loom() of \"" + text + "\"", loom(x, text), -1 - place);
  }

  static void items(LoomCards x, String text, int items) {
    due("loom() of \"" + text + "\"", loom(x, text), items);
  }

  static void times(int n, Runnable call) {
    for (int i = 0; i < n; i++) call.run();
  }
}
