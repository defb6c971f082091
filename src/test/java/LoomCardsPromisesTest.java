/**
 * Each promise of the document by hand: ordinary inputs, the edges that it names, and wrong inputs
 * with the finding that is due, in the order in which findings are asked.
 */
public final class LoomCardsPromisesTest {
  private static final int BEYOND = -1000000001, FULL = -1000000002, KIND = -1000000003,
      NONE = -1000000004, STATE = -1000000005, MISSING = -1000000006, SIZE = -1000000007;
  private static final int MIN = Integer.MIN_VALUE, MAX = Integer.MAX_VALUE;
  private static int promise = 0;
  private static int asked = 0;
  private static int wrong = 0;

  private static void due(String what, long got, long want) {
    asked++;
    if (got != want) {
      wrong++;
      System.out.println("promise " + promise + ": " + what + " answered " + got + ", due is " + want);
    }
  }

  private static LoomCards begin(int number) {
    promise = number;
    return new LoomCards();
  }

  /** Cards with these holes and nothing eaten, each picked once. */
  private static LoomCards woven(int number, int... holes) {
    LoomCards x = begin(number);
    for (int h : holes) x.pick(x.card(h, 0));
    return x;
  }

  private static void feed(LoomCards x, String text) {
    for (int i = 0; i < text.length(); i++) x.feed(text.charAt(i), 1);
  }

  private static int loom(LoomCards x, String text) {
    feed(x, text);
    return x.loom();
  }

  private static void loomDue(LoomCards x, String text, int want) {
    due("loom() of \"" + text + "\"", loom(x, text), want);
  }

  public static void main(String[] args) {
    cards();
    threadsAndOrder();
    laws();
    keptByKind();
    eatenPlaces();
    orders();
    rowsAndThreads();
    tape();
    texts();
    faults();
    sheets();
    told();
    images();
    counts();
    System.out.println(asked + " answers asked, " + wrong + " are not as due");
    if (wrong != 0) System.exit(1);
  }

  private static void cards() {
    LoomCards x = begin(1);
    for (int what = 0; what <= 5; what++) due("count " + what, x.count(what), 0);
    due("undo", x.undo(), NONE);
    for (int t = 0; t < 16; t++) due("tied " + t, x.tied(t), t % 8);
    for (int s = 0; s < 4; s++) due("draw", x.draw(s), MISSING);
    due("status", x.status(-1), 5);

    x = begin(2);
    due("card", x.card(255, 0), 0);
    due("card", x.card(0, 255), 1);
    due("card", x.card(0xf0, 0x0f), 2);
    due("common hook", x.card(3, 2), BEYOND);
    due("holes 256", x.card(256, 0), BEYOND);
    due("eaten 256", x.card(0, 256), BEYOND);
    due("holes -1", x.card(-1, 0), BEYOND);
    due("eaten below", x.card(0, MIN), BEYOND);
    for (int c = 3; c < 10; c++) due("card", x.card(c, 0), c);
    due("11th", x.card(0, 0), FULL);
    due("BEYOND ahead of FULL", x.card(1, 1), BEYOND);
    due("count", x.count(0), 10);

    x = begin(3);
    x.card(0x13, 0x84);
    x.card(1, 0);
    x.pick(0);
    x.pick(1);
    x.pick(0);
    due("holes", x.of(0, 0), 0x13);
    due("eaten", x.of(0, 1), 0x84);
    due("how many", x.of(0, 2), 3);
    due("how often", x.of(0, 3), 2);
    due("threads", x.of(0, 4), 0x1313);
    x.tie(0, 7);
    x.tie(15, 1);
    due("threads, eaten as none", x.of(0, 4), 0x9312);
    due("no such card", x.of(2, 0), BEYOND);
    due("card -1", x.of(-1, 0), BEYOND);
    due("what 5", x.of(0, 5), BEYOND);
    due("what -1", x.of(0, -1), BEYOND);

    x = begin(4);
    x.card(1, 2);
    due("punch", x.punch(0, 0, 2), 1);
    due("punch", x.punch(0, 1, 1), 2);
    due("punch", x.punch(0, 7, 1), 0);
    due("punch", x.punch(0, 7, 1), 1);
    due("holes", x.of(0, 0), 0x82);
    due("eaten", x.of(0, 1), 1);
    due("punch", x.punch(0, 0, 0), 2);
    due("eaten", x.of(0, 1), 0);
    due("v 3", x.punch(0, 0, 3), BEYOND);
    due("v -1", x.punch(0, 0, -1), BEYOND);
    due("hook 8", x.punch(0, 8, 0), BEYOND);
    due("hook -1", x.punch(0, -1, 0), BEYOND);
    due("card 1", x.punch(1, 0, 0), BEYOND);
    due("holes", x.of(0, 0), 0x82);

    x = begin(5);
    x.card(0x80, 1);
    due("at", x.at(0, 0), 2);
    due("at", x.at(0, 1), 0);
    due("at", x.at(0, 7), 1);
    due("hook 8", x.at(0, 8), BEYOND);
    due("hook", x.at(0, MIN), BEYOND);
    due("card", x.at(1, 0), BEYOND);
    due("card", x.at(MAX, 0), BEYOND);

    x = begin(6);
    x.card(1, 2);
    x.card(1, 0);
    x.card(1, 2);
    x.card(1, 2);
    x.card(3, 0);
    due("twin", x.twin(0), 2);
    due("twin", x.twin(2), 0);
    due("twin", x.twin(3), 0);
    due("eaten is not none", x.twin(1), NONE);
    due("eaten is not a hole", x.twin(4), NONE);
    due("card", x.twin(5), BEYOND);
    due("card", x.twin(-1), BEYOND);
  }

  private static void threadsAndOrder() {
    LoomCards x = begin(7);
    due("tie", x.tie(15, 0), 7);
    due("tie", x.tie(15, 3), 0);
    due("tie", x.tie(0, 7), 0);
    due("thread 16", x.tie(16, 0), BEYOND);
    due("thread -1", x.tie(-1, 0), BEYOND);
    due("hook 8", x.tie(0, 8), BEYOND);
    due("hook -1", x.tie(0, -1), BEYOND);
    due("tied", x.tied(0), 7);

    x = begin(8);
    x.tie(9, 5);
    due("tied", x.tied(9), 5);
    due("tied", x.tied(10), 2);
    due("thread 16", x.tied(16), BEYOND);
    due("thread -1", x.tied(-1), BEYOND);

    x = begin(9);
    due("no card", x.pick(0), BEYOND);
    x.card(0, 0);
    for (int n = 1; n <= 20; n++) due("pick", x.pick(0), n);
    due("21st", x.pick(0), FULL);
    due("BEYOND ahead of FULL", x.pick(1), BEYOND);
    due("rows", x.count(2), 20);

    x = begin(10);
    due("drop", x.drop(), NONE);
    x.card(0, 0);
    x.card(0, 0);
    x.pick(1);
    x.pick(0);
    due("drop", x.drop(), 0);
    due("drop", x.drop(), 1);
    due("drop", x.drop(), NONE);

    x = begin(11);
    due("woven", x.woven(0), BEYOND);
    x.card(0, 0);
    x.card(0, 0);
    x.pick(1);
    x.pick(0);
    due("woven", x.woven(0), 1);
    due("woven", x.woven(1), 0);
    due("woven", x.woven(2), BEYOND);
    due("woven", x.woven(-1), BEYOND);

    x = begin(12);
    x.card(0x81, 0x10);
    x.card(2, 0);
    x.pick(1);
    x.pick(0);
    due("row", x.row(0), 0x0202);
    due("row", x.row(1), 0x8181);
    x.tie(4, 7);
    due("row", x.row(1), 0x8191);
    due("row", x.row(2), BEYOND);
    due("row", x.row(-1), BEYOND);
  }

  private static void laws() {
    LoomCards x = begin(13);
    due("kind 6", x.law(6, 1), BEYOND);
    due("kind -1", x.law(-1, 1), BEYOND);
    due("n 0", x.law(0, 0), BEYOND);
    due("n 17", x.law(0, 17), BEYOND);
    for (int kind = 0; kind < 6; kind++) due("law", x.law(kind, kind == 5 ? 16 : 1), kind);
    due("7th", x.law(0, 1), FULL);
    due("BEYOND ahead of FULL", x.law(0, 17), BEYOND);
    due("laws", x.count(1), 6);

    x = begin(14);
    x.law(4, 9);
    x.law(0, 3);
    due("kind", x.lawOf(0, 0), 4);
    due("n", x.lawOf(0, 1), 9);
    due("in force", x.lawOf(0, 2), 1);
    x.force(0, false);
    due("not in force", x.lawOf(0, 2), 0);
    due("kept", x.lawOf(1, 3), 1);
    x.pick(x.card(3, 0));
    due("not kept", x.lawOf(1, 3), 0);
    due("kept, not in force", x.lawOf(0, 3), 1);
    due("what 4", x.lawOf(0, 4), BEYOND);
    due("what -1", x.lawOf(0, -1), BEYOND);
    due("law 2", x.lawOf(2, 0), BEYOND);
    due("law -1", x.lawOf(-1, 0), BEYOND);

    x = begin(15);
    due("no law", x.set(0, 1), BEYOND);
    x.law(0, 5);
    due("set", x.set(0, 16), 5);
    due("set", x.set(0, 1), 16);
    due("v 0", x.set(0, 0), BEYOND);
    due("v 17", x.set(0, 17), BEYOND);
    due("n", x.lawOf(0, 1), 1);

    x = begin(16);
    due("no law", x.force(0, true), BEYOND);
    x.law(0, 5);
    due("force", x.force(0, true), 0);
    due("force", x.force(0, false), 1);
    due("force", x.force(0, false), 0);
    due("force", x.force(0, true), 1);
    due("law -1", x.force(-1, true), BEYOND);

    x = begin(17);
    String[] kindsOver = {"0", "01", "02", "013", "024", "0135"};
    for (int kind = 0; kind < 6; kind++) x.law(kind, kind + 1);
    for (int law = 0; law < 6; law++) {
      for (int kind = 0; kind < 6; kind++) {
        boolean is = kindsOver[law].indexOf('0' + kind) >= 0;
        due("law " + law + " as " + kind, x.as(law, kind), is ? law + 1 : KIND);
      }
    }
    due("kind 6", x.as(0, 6), BEYOND);
    due("kind -1", x.as(0, -1), BEYOND);
    due("law 6", x.as(6, 0), BEYOND);

    x = begin(18);
    due("no laws", x.broken(), NONE);
    x.law(0, 16);
    x.law(2, 3);
    x.law(0, 1);
    due("no rows", x.broken(), NONE);
    x.pick(x.card(1, 0));
    due("the first", x.broken(), 1);
    x.force(1, false);
    due("only those in force", x.broken(), 2);
    x.set(2, 2);
    due("all kept", x.broken(), NONE);

    x = begin(19);
    due("no rows", x.floats(0), 0);
    due("no rows", x.floats(1), 0);
    due("what 2", x.floats(2), BEYOND);
    due("what -1", x.floats(-1), BEYOND);
    x.card(0, 0);
    x.card(0x0f, 0);
    x.card(0x3c, 0);
    x.pick(0);
    due("a bare row", x.floats(0), 16);
    due("one row", x.floats(1), 1);
    x.drop();
    x.pick(2);
    due("by threads, not by hooks", x.floats(0), 4);
    x.pick(1);
    x.pick(1);
    due("two or three", x.floats(1), 3);
    x.pick(2);
    x.pick(2);
    due("hooks 2 and 3 stay, 6 and 7 too", x.floats(1), 5);
    for (int t = 0; t < 16; t++) x.tie(t, t < 15 ? 4 : 0);
    due("threads beside one another", x.floats(0), 15);
    due("down", x.floats(1), 2);
    due("all up", woven(19, 0xff).floats(0), 16);
    x = woven(19, 0x55, 0x57, 0xaa, 0xa2);
    due("up across", x.floats(0), 3);
    due("up down", x.floats(1), 3);
    x.punch(2, 1, 0);
    due("as ever, but two by two", x.floats(1), 2);
    x = woven(19, 0xaa, 0x55, 0xaa, 0x55, 0xff);
    due("not dropped yet", x.floats(0), 16);
    due("not dropped yet", x.floats(1), 2);
    x.drop();
    due("what was dropped is gone", x.floats(0), 1);
    due("what was dropped is gone", x.floats(1), 1);
  }

  private static int kept(LoomCards x, int kind, int n) {
    x.image();
    int law = x.law(kind, n);
    int kept = x.lawOf(law, 3);
    x.undo();
    return kept;
  }

  /** The meaning of each KIND, asked by lawOf(). */
  private static void keptByKind() {
    LoomCards x = begin(14);
    for (int kind = 0; kind < 6; kind++) due("no rows, kind " + kind, kept(x, kind, 1), 1);

    x = woven(14, 0x01, 0x07);
    due("law 5", kept(x, 0, 5), 0);
    due("law 6", kept(x, 0, 6), 1);
    due("even 5", kept(x, 1, 5), 0);
    due("even 6", kept(x, 1, 6), 1);
    x.tie(15, 0);
    due("odd number up", kept(x, 1, 16), 0);
    due("law takes odd", kept(x, 0, 16), 1);

    x = woven(14, 0x0f, 0x33);
    due("long 3", kept(x, 2, 3), 0);
    due("long 4, more are up", kept(x, 2, 4), 1);
    due("tight 4", kept(x, 4, 4), 1);
    x = woven(14, 0x55, 0x55, 0xaa);
    due("long 1", kept(x, 2, 1), 1);
    due("tight 1", kept(x, 4, 1), 0);
    due("tight 2", kept(x, 4, 2), 1);
    x = woven(14, 0x0f, 0xf0);
    due("tight is long too", kept(x, 4, 3), 0);

    x = woven(14, 0x81, 0x03, 0x06);
    due("step", kept(x, 3, 4), 1);
    due("step is law", kept(x, 3, 3), 0);
    x.tie(15, 0);
    due("step is even", kept(x, 3, 16), 0);
    due("turn is even", kept(x, 5, 16), 0);
    x = woven(14, 0x06, 0x03);
    due("step down", kept(x, 3, 16), 0);
    due("one row steps", kept(woven(14, 0x42), 3, 4), 1);
    x = woven(14, 0x80, 0x00);
    due("hook 7 comes at 0", kept(x, 3, 16), 0);
    x = woven(14, 0x01, 0x02);
    x.punch(1, 2, 2);
    due("eaten is no hole", kept(x, 3, 16), 1);

    x = woven(14, 0x07, 0x01, 0x07);
    due("turn by its ends, whatever n", kept(x, 5, 1), 1);
    due("not by step", kept(x, 3, 16), 0);
    x = woven(14, 0x01, 0x02, 0x04);
    due("turn by step", kept(x, 5, 2), 1);
    due("turn by step is law", kept(x, 5, 1), 0);
    x = woven(14, 0x01, 0x02, 0x02, 0x04);
    due("neither", kept(x, 5, 16), 0);
    x = woven(14, 0x01, 0x02);
    for (int t = 0; t < 16; t++) x.tie(t, 7);
    due("the same rows by unlike cards", kept(x, 5, 1), 1);
    due("from both ends", kept(woven(14, 1, 2, 7, 2, 1), 5, 1), 1);
    due("the ends alone", kept(woven(14, 1, 2, 7, 3, 1), 5, 16), 0);
    due("all but the ends", kept(woven(14, 1, 2, 2, 4), 5, 16), 0);
    due("an even number", kept(woven(14, 1, 2, 2, 1), 5, 1), 1);

    x = woven(14, 0x01, 0x02, 0x7f);
    x.tie(14, 0);
    due("law, not dropped yet", kept(x, 0, 3), 0);
    x.drop();
    due("law, dropped", kept(x, 0, 3), 1);
    x.tie(14, 6);
    due("even, dropped", kept(x, 1, 2), 1);
    due("step, dropped", kept(x, 3, 2), 1);
    due("long, dropped", kept(x, 2, 7), 1);
    x.tie(14, 0);
    due("three are up", kept(x, 0, 2), 0);
  }

  private static void eatenPlaces() {
    LoomCards x = begin(20);
    due("no places", x.ways(), 1);
    x.card(0, 0xff);
    x.card(0, 0x1f);
    x.card(0, 0xff);
    due("not in the order", x.ways(), 1);
    x.pick(0);
    x.pick(0);
    due("a card twice", x.ways(), 256);
    x.pick(1);
    due("13 places", x.ways(), SIZE);
    x.punch(1, 0, 0);
    due("12 places", x.ways(), 4096);
    x.law(0, 2);
    due("one hook a card at most", x.ways(), 9 * 5);
    x.force(0, false);
    due("only laws in force", x.ways(), 4096);
    x.force(0, true);
    x.punch(0, 0, 1);
    x.punch(0, 1, 1);
    due("no ways", x.ways(), 0);

    x = begin(21);
    x.card(0x01, 0xf0);
    x.card(0, 0);
    x.pick(0);
    x.law(2, 2);
    // 1.. then at most two alike: hooks 1 to 3 are bare, three in a row.
    due("none", x.sure(0, 0), NONE);
    x.set(0, 3);
    x.punch(0, 7, 0);
    due("a hole stays", x.sure(0, 0), 1);
    due("none stays", x.sure(0, 1), 0);
    due("must be a hole", x.sure(0, 4), 1);
    due("now this, now that", x.sure(0, 5), 2);
    x.set(0, 16);
    x.law(0, 2);
    due("must be none", x.sure(0, 4), 0);
    due("no such card", x.sure(2, 0), BEYOND);
    due("no such hook", x.sure(0, 8), BEYOND);
    due("no such hook", x.sure(0, -1), BEYOND);
    due("not in the order", x.sure(1, 0), STATE);
    x.card(0, 0xff);
    x.card(0, 0xff);
    x.pick(2);
    x.pick(3);
    due("BEYOND ahead of STATE", x.sure(1, 8), BEYOND);
    due("STATE ahead of SIZE", x.sure(1, 0), STATE);
    due("SIZE", x.sure(0, 0), SIZE);

    x = begin(22);
    due("no places", x.fill(0), 0);
    due("not so many", x.fill(1), NONE);
    x.card(0, 0x81);
    x.card(0, 0x06);
    x.card(0, 0xff);
    x.pick(1);
    x.pick(0);
    due("below 0", x.fill(-1), BEYOND);
    due("not so many", x.fill(16), NONE);
    x.image();
    // Places: card 0 hooks 0, 7; card 1 hooks 1, 2.
    due("fill 6", x.fill(6), 4);
    due("card 0", x.of(0, 0), 0x80);
    due("card 1", x.of(1, 0), 0x02);
    due("others stay", x.of(2, 1), 0xff);
    due("eaten", x.count(3), 8);
    x.undo();
    x.law(0, 2);
    // One hook each at most: 00, 01, 02, 10, 11, 12, 20, ... (card 1, then card 0).
    due("the 5th that keeps", x.fill(5), 4);
    due("card 0", x.of(0, 0), 0x80);
    due("card 1", x.of(1, 0), 0x02);
    x.pick(2);
    x.punch(0, 0, 2);
    x.punch(0, 1, 2);
    x.punch(0, 2, 2);
    x.punch(0, 3, 2);
    x.punch(0, 4, 2);
    due("SIZE", x.fill(0), SIZE);
    due("BEYOND ahead of SIZE", x.fill(MIN), BEYOND);

    x = begin(23);
    due("no place", x.ask(), NONE);
    x.card(0, 0);
    x.card(0, 0x06);
    due("not in the order", x.ask(), NONE);
    x.pick(1);
    due("of several the least", x.ask(), 11);
    x.tie(9, 0);
    x.law(1, 16);
    // Thread 1 alone at hook 1: it must be none, so it tells nothing; hook 2 is free.
    due("the one that tells", x.ask(), 12);
    x.tie(10, 0);
    x.tie(0, 2);
    // Thread 1 is up, and hook 2 has two threads: an odd number either way.
    x.punch(1, 1, 1);
    due("without ways", x.ways(), 0);
    due("the least place", x.ask(), 12);
    x.card(0, 0xff);
    x.card(0, 0xf0);
    x.pick(2);
    x.pick(3);
    due("SIZE", x.ask(), SIZE);
  }

  private static void orders() {
    LoomCards x = begin(24);
    due("of none", x.orders(0), 1);
    due("no cards", x.orders(1), BEYOND);
    for (int c = 0; c < 8; c++) x.card(1 << c, 0);
    due("of one", x.orders(1 << 7), 1);
    due("of 6", x.orders(0x3f), 720);
    due("of 7", x.orders(0x7f), SIZE);
    due("BEYOND ahead of SIZE", x.orders(0x1ff), BEYOND);
    due("below 0", x.orders(-1), BEYOND);
    due("bit 31", x.orders(MIN), BEYOND);
    x.law(3, 2);
    due("by steps", x.orders(0x3f), 1);
    due("all the way round", x.orders(0xc1), 1);
    due("with a gap", x.orders(0x05), 0);
    x.force(0, false);
    due("only laws in force", x.orders(0x05), 2);
    due("the order stays", x.count(2), 0);

    x = begin(25);
    for (int c = 0; c < 8; c++) x.card(1 << c, 0);
    due("of none", x.lay(0, 0), 0);
    due("lay", x.lay(0x92, 3), 3);
    // 1 4 7, 1 7 4, 4 1 7, 4 7 1
    due("woven", x.woven(0), 4);
    due("woven", x.woven(1), 7);
    due("woven", x.woven(2), 1);
    due("the last", x.lay(0x3f, 719), 6);
    for (int i = 0; i < 6; i++) due("woven", x.woven(i), 5 - i);
    due("not so many", x.lay(0x3f, 720), NONE);
    due("i below 0", x.lay(1, -1), BEYOND);
    due("BEYOND ahead of SIZE", x.lay(0x7f, -1), BEYOND);
    due("SIZE", x.lay(0x7f, 0), SIZE);
    due("no such card", x.lay(0x100, 0), BEYOND);
    x.law(3, 2);
    due("by steps", x.lay(0xc1, 0), 3);
    due("woven", x.woven(0), 6);
    due("woven", x.woven(2), 0);
    due("with a gap", x.lay(0x05, 0), NONE);
    due("nothing changes", x.count(2), 3);

    x = begin(26);
    due("no rows", x.repeat(), NONE);
    x = woven(26, 1);
    due("one row", x.repeat(), 1);
    x = woven(26, 1, 2, 4, 1);
    due("cut short", x.repeat(), 3);
    x = woven(26, 1, 2, 4, 8);
    due("no less", x.repeat(), 4);
    x = woven(26, 1, 1, 2, 1, 1, 2, 1);
    due("by rows, not cards", x.repeat(), 3);
    x = woven(26, 5, 5, 5);
    due("all alike", x.repeat(), 1);

    x = begin(27);
    due("no rows", x.unlike(), 0);
    x = woven(27, 1, 2, 1, 4, 2);
    due("unlike", x.unlike(), 3);
    for (int t = 0; t < 16; t++) x.tie(t, t % 2);
    due("rows, not cards", x.unlike(), 3);
    for (int t = 0; t < 16; t++) x.tie(t, 7);
    due("all bare", x.unlike(), 1);

    x = begin(28);
    due("no cards", x.tells(), 0);
    x.card(0x81, 0);
    due("one card", x.tells(), 0);
    x.card(0x81, 0);
    due("twins", x.tells(), 0);
    x.card(0x01, 0x80);
    due("eaten tells", x.tells(), 0x80);
    x.card(0x00, 0x80);
    due("two hooks", x.tells(), 0x81);
    x.card(0x01, 0x90);
    due("three hooks", x.tells(), 0x91);
    x = begin(28);
    x.card(0x07, 0);
    x.card(0x38, 0);
    due("of several the least", x.tells(), 0x01);
    x.card(0x07, 0x30);
    due("fewest first", x.tells(), 0x10);
  }

  private static void rowsAndThreads() {
    LoomCards x = begin(29);
    due("no rows", x.thread(0, 0), 0);
    due("no rows", x.thread(0, 1), 0);
    x = woven(29, 0x80, 0x01, 0x81, 0x80, 0x80);
    due("up", x.thread(15, 0), 4);
    due("changes", x.thread(15, 1), 2);
    due("up", x.thread(0, 0), 2);
    due("changes", x.thread(0, 1), 2);
    due("never", x.thread(1, 0), 0);
    due("never", x.thread(1, 1), 0);
    x.tie(1, 0);
    due("tied anew", x.thread(1, 0), 2);
    due("thread 16", x.thread(16, 0), BEYOND);
    due("thread -1", x.thread(-1, 1), BEYOND);
    due("what 2", x.thread(0, 2), BEYOND);
    due("what -1", x.thread(0, -1), BEYOND);
  }

  private static void tape() {
    LoomCards x = begin(30);
    due("n 0", x.feed(1, 0), BEYOND);
    due("n 5", x.feed(1, 5), BEYOND);
    due("the highest first", x.feed(0x6c617720, 4), 4);
    due("the lowest bytes", x.feed(0x7f7f7f37, 1), 5);
    due("loom", x.loom(), 1);
    due("n of the law", x.lawOf(0, 1), 7);
    for (int n = 1; n <= 29; n++) due("feed", x.feed(0x20202020, 4), 4 * n);
    due("feed", x.feed(0, 3), 119);
    due("too many", x.feed(0, 2), FULL);
    due("BEYOND ahead of FULL", x.feed(0, -1), BEYOND);
    due("the last", x.feed(0, 1), 120);
    due("full", x.feed(0, 1), FULL);
    due("bytes", x.count(4), 120);

    x = begin(31);
    due("empty", x.wipe(), 0);
    x.feed(0x41, 3);
    due("wipe", x.wipe(), 3);
    due("wipe", x.wipe(), 0);
    loomDue(x, "law 3", 1);
  }

  private static void texts() {
    LoomCards x = begin(32);
    loomDue(x, "card #.?#.?#.", 1);
    due("holes", x.of(0, 0), 0x49);
    due("eaten", x.of(0, 1), 0x24);
    due("the tape is empty", x.count(4), 0);
    loomDue(x, "  card........;card????????  ;order 2 1 0 2;tie 15 0 ; tie15 006", 5);
    due("cards", x.count(0), 3);
    due("woven", x.woven(3), 2);
    due("tied", x.tied(15), 6);
    due("bare", x.of(1, 0) + x.of(1, 1), 0);
    due("all eaten", x.of(2, 1), 255);
    loomDue(x, "order 1;order 0 0", 2);
    due("rows", x.count(2), 2);
    loomDue(x, "law 1;even 2;long 16;step 0000000000004;tight 5;turn 6", 6);
    for (int law = 0; law < 6; law++) {
      due("kind", x.lawOf(law, 0), law);
      due("n", x.lawOf(law, 1), new int[] {1, 2, 16, 4, 5, 6}[law]);
      due("in force", x.lawOf(law, 2), 1);
    }
    loomDue(x, "order 0 0 0 0 0 0 0 0 0 0 1 1 1 1 1 1 1 1 1 1", 1);
    due("20 rows", x.count(2), 20);
    due("no findings", x.status(-1), 0);
  }

  private static void faults() {
    LoomCards x = begin(32);
    x.image();
    loomDue(x, "", -1);
    loomDue(x, "   ", -4);
    loomDue(x, ";", -1);
    loomDue(x, "law", -4);
    loomDue(x, "law  ", -6);
    loomDue(x, "law 3;", -7);
    loomDue(x, "law 3;;", -7);
    loomDue(x, "law 3 4", -7);
    loomDue(x, "law 0", -5);
    loomDue(x, "law 17", -5);
    loomDue(x, "law 1000", -5);
    loomDue(x, "law 4294967297", -5);
    loomDue(x, "law law", -5);
    loomDue(x, "lawn 3", -1);
    loomDue(x, "la w 3", -1);
    loomDue(x, "paw 3", -1);
    loomDue(x, "lie 1 2", -1);
    loomDue(x, "lawz 3", -1);
    loomDue(x, "lawa 3", -1);
    loomDue(x, "Law 3", -1);
    loomDue(x, "law 3A", -6);
    loomDue(x, "law\t3", -4);
    loomDue(x, "law\u00a03", -4);
    loomDue(x, "law 3\n", -6);
    loomDue(x, "7", -1);
    loomDue(x, "########", -1);
    loomDue(x, "card", -5);
    loomDue(x, "card #######", -6);
    loomDue(x, "card #########", -6);
    loomDue(x, "card #### ####", -6);
    loomDue(x, "card 8", -6);
    loomDue(x, "card ########law 3", -14);
    loomDue(x, "card ######## ########", -15);
    loomDue(x, "tie", -4);
    loomDue(x, "tie 16 0", -5);
    loomDue(x, "tie 1 8", -7);
    loomDue(x, "tie 1", -6);
    loomDue(x, "tie 1;", -6);
    loomDue(x, "order", -6);
    loomDue(x, "order;", -6);
    loomDue(x, "order 0;card ########", -7);
    loomDue(x, "card ########;order 0 1", -23);
    loomDue(x, "order x", -7);
    due("nothing came", x.count(0) + x.count(1) + x.count(2), 0);
    due("no findings", x.status(-1), 0);

    // What stands ahead of a FAULT does not come either.
    x = begin(32);
    x.tie(3, 1);
    loomDue(x, "card ########;tie 3 5;law 3;order 0;nine", -37);
    due("cards", x.count(0), 0);
    due("laws", x.count(1), 0);
    due("rows", x.count(2), 0);
    due("tied", x.tied(3), 1);
    due("the tape is empty", x.count(4), 0);

    for (int c = 0; c < 9; c++) x.card(0, 0);
    loomDue(x, "card ........;card ........", -15);
    due("cards", x.count(0), 9);
    x.card(0, 0);
    loomDue(x, "card 1", -1);
    for (int l = 0; l < 5; l++) x.law(0, 1);
    loomDue(x, "law 1;turn 1", -7);
    x.law(0, 1);
    loomDue(x, " even", -2);
    loomDue(x, "order 0 1 2 3 4 5 6 7 8 9 0 1 2 3 4 5 6 7 8 9 0", -47);
    due("rows", x.count(2), 0);
    loomDue(x, "order 9 10", -9);
  }

  private static void sheets() {
    LoomCards x = begin(33);
    due("sheet", x.sheet(0, 8, 40), 40);
    due("sheet", x.sheet(3, 16, 0), 0);
    due("sheet", x.sheet(1, 64, 1), 1);
    due("sheet 4", x.sheet(4, 8, -1), BEYOND);
    due("sheet -1", x.sheet(-1, 8, 1), BEYOND);
    due("32 bits", x.sheet(0, 32, -1), BEYOND);
    due("bits below 0", x.sheet(0, -8, 1), BEYOND);
    due("n below 0", x.sheet(0, 8, -1), SIZE);
    due("n below 0, missing", x.sheet(0, 0, MIN), SIZE);
    due("n 41", x.sheet(0, 8, 41), BEYOND);
    due("n 41, missing", x.sheet(0, 0, 41), BEYOND);
    due("it stays", x.write(0, 39, 5), 0);
    due("all 0 anew", x.sheet(0, 8, 40), 40);
    due("it is 0", x.write(0, 39, 0), 0);
    due("missing", x.sheet(0, 0, 7), 0);
    due("missing", x.write(0, 0, 0), MISSING);
    due("of none", x.write(3, 0, 0), BEYOND);

    x = begin(34);
    due("no such sheet", x.write(4, 0, 0), BEYOND);
    due("missing", x.write(0, -1, 0), MISSING);
    x.sheet(0, 8, 2);
    x.sheet(1, 16, 2);
    x.sheet(2, 64, 2);
    for (int s = 0; s < 3; s++) due("it was", x.write(s, 1, -2), 0);
    due("8 bits", x.write(0, 1, 0x1ff), -2);
    due("16 bits", x.write(1, 1, 0x1ffff), -2);
    due("64 bits", x.write(2, 1, Long.MIN_VALUE), -2);
    due("8 bits", x.write(0, 1, 0), -1);
    due("16 bits", x.write(1, 1, 0), -1);
    due("64 bits", x.write(2, 1, BEYOND), Long.MIN_VALUE);
    long[] put = {127, 128, 255, 256, -128, -129, 0x5a80, 0x5a7f};
    long[] of8 = {127, -128, -1, 0, -128, 127, -128, 127};
    for (int i = 0; i < put.length; i++) {
      x.write(0, 0, put[i]);
      due("8 bits of " + put[i], x.write(0, 0, 0), of8[i]);
    }
    put = new long[] {32767, 32768, 65535, 65536, -32768, -32769, 0x5a8101, 128};
    long[] of16 = {32767, -32768, -1, 0, -32768, 32767, -32511, 128};
    for (int i = 0; i < put.length; i++) {
      x.write(1, 0, put[i]);
      due("16 bits of " + put[i], x.write(1, 0, 0), of16[i]);
    }
    for (long v : new long[] {Long.MAX_VALUE, Long.MIN_VALUE, 1L << 40, -1}) {
      x.write(2, 0, v);
      due("64 bits of " + v, x.write(2, 0, 0), v);
    }
    int findings = x.status(-1);
    due("a number, no finding", x.write(2, 1, 0), BEYOND);
    due("not counted", x.status(-1), findings);
    due("no such number", x.write(0, 2, 0), BEYOND);
    due("no such number", x.write(0, -1, 0), BEYOND);
    due("counted", x.status(-1), findings + 2);

    x = begin(35);
    x.sheet(0, 16, 5);
    x.sheet(1, 16, 3);
    x.sheet(2, 64, 5);
    for (int i = 0; i < 5; i++) x.write(0, i, i + 1);
    due("sheet 4", x.copy(4, 0, 0, 0, 0), BEYOND);
    due("sheet -1 ahead of missing", x.copy(3, 0, -1, 0, 0), BEYOND);
    due("missing", x.copy(3, 0, 0, 0, 0), MISSING);
    due("missing", x.copy(0, 0, 3, 0, -1), MISSING);
    due("bits", x.copy(0, -1, 2, 0, 1), KIND);
    due("from", x.copy(0, -1, 1, 0, 1), BEYOND);
    due("to", x.copy(0, 0, 1, -1, 1), BEYOND);
    due("n", x.copy(0, 0, 1, 0, -1), BEYOND);
    due("too many", x.copy(0, 0, 1, 0, 4), BEYOND);
    due("too many", x.copy(0, 3, 1, 0, 3), BEYOND);
    due("wrapped around", x.copy(0, MAX, 1, 0, MAX), BEYOND);
    due("wrapped around", x.copy(0, 2, 1, 2, MAX), BEYOND);
    due("none", x.copy(0, 5, 1, 3, 0), 0);
    due("copy", x.copy(0, 3, 1, 1, 2), 2);
    due("came", x.write(1, 0, 0), 0);
    due("came", x.write(1, 1, 0), 4);
    due("came", x.write(1, 2, 0), 5);
    due("up", x.copy(0, 0, 0, 1, 4), 4);
    for (int i = 0; i < 5; i++) due("as they were", x.write(0, i, i + 1), new int[] {1, 1, 2, 3, 4}[i]);
    x.write(0, 0, 0x8001);
    x.copy(0, 0, 1, 0, 1);
    due("with its sign", x.write(1, 0, 0), -32767);
    x.write(0, 0, 1);
    due("all", x.copy(0, 0, 0, 0, 5), 5);
    due("down", x.copy(0, 1, 0, 0, 4), 4);
    for (int i = 0; i < 5; i++) due("as they were", x.write(0, i, 0), new int[] {2, 3, 4, 5, 5}[i]);
  }

  private static void told() {
    LoomCards x = woven(36, 0x81, 0x02, 0x04);
    due("no such sheet", x.draw(4), BEYOND);
    due("missing", x.draw(0), MISSING);
    x.sheet(0, 16, 2);
    x.sheet(1, 8, 5);
    x.write(1, 3, 9);
    due("as far as it has", x.draw(0), 2);
    due("as far as there are", x.draw(1), 3);
    due("a row", x.write(0, 0, 0), 0x8181 - 0x10000);
    due("a row", x.write(0, 1, 0), 0x0202);
    due("its lowest bits", x.write(1, 0, 0), 0x81 - 0x100);
    due("its lowest bits", x.write(1, 1, 0), 0x02);
    due("behind the rows", x.write(1, 3, 0), 9);

    x = woven(37, 0x81, 0x02, 0x04);
    due("no such sheet", x.read(-1), BEYOND);
    due("missing", x.read(0), MISSING);
    x.sheet(0, 64, 3);
    x.draw(0);
    due("it tells", x.read(0), 0);
    x.write(0, 1, 0xabcd00000202L);
    due("the lowest 16 bits", x.read(0), 0);
    x.write(0, 2, 0x0405);
    due("the third", x.read(0), 3);
    x.write(0, 0, 0);
    due("the first that isn't", x.read(0), 1);
    x.sheet(0, 16, 2);
    x.draw(0);
    due("more must come", x.read(0), 3);
    x.sheet(0, 16, 4);
    x.draw(0);
    due("one too many", x.read(0), 4);
    x.sheet(0, 16, 0);
    due("all must come", x.read(0), 1);
    x.sheet(0, 16, 3);
    x.draw(0);
    x.drop();
    due("one too many now", x.read(0), 3);
    x.pick(2);
    x.punch(0, 0, 2);
    due("the card has changed", x.read(0), 1);
    x = woven(37, 0x7f, 0xff, 0x80);
    for (int thread = 8; thread < 16; thread++) x.tie(thread, 7);
    x.sheet(0, 8, 3);
    x.draw(0);
    due("8 bits with their sign", x.read(0), 0);
    x.tie(15, 0);
    due("of the first", x.read(0), 1);
    x.write(0, 0, 0x80);
    due("8 bits below 0", x.whose(0, 0), NONE);
    x.tie(15, 7);
    due("8 bits below 0", x.whose(0, 0), 2);
    due("8 bits below 0", x.nearest(0, 1), 1);
    due("8 bits below 0", x.crossings(0), 0);
    due("8 bits below 0", x.order(0), 3);
    due("woven", x.woven(0), 2);
    x.write(0, 0, 0x81);
    due("8 bits below 0", x.mark(0), 0);

    x = begin(38);
    due("no such sheet", x.whose(4, 0), BEYOND);
    due("missing", x.whose(0, 9), MISSING);
    x.sheet(0, 64, 3);
    due("no cards", x.whose(0, 0), NONE);
    x.card(2, 1);
    x.card(1, 0);
    x.card(1, 2);
    x.write(0, 0, 0x770101L);
    x.write(0, 1, 0x0202);
    due("of several the least", x.whose(0, 0), 1);
    due("eaten counts as none", x.whose(0, 1), 0);
    due("by none", x.whose(0, 2), NONE);
    due("no such number", x.whose(0, 3), BEYOND);
    due("no such number", x.whose(0, -1), BEYOND);

    x = begin(39);
    due("no such sheet", x.nearest(-1, 0), BEYOND);
    due("missing", x.nearest(0, 9), MISSING);
    x.sheet(0, 64, 2);
    due("no such number, no cards", x.nearest(0, 2), BEYOND);
    due("no cards", x.nearest(0, 0), NONE);
    x.card(0xff, 0);
    x.card(0x0f, 0);
    x.card(0xf0, 0);
    x.write(0, 0, 0x7f0f0fL);
    x.write(0, 1, 0x5555);
    due("nearest", x.nearest(0, 0), 1);
    due("of several the least", x.nearest(0, 1), 0);
    x.write(0, 1, 0xf0e0);
    due("nearest", x.nearest(0, 1), 2);

    x = begin(40);
    due("no such sheet", x.crossings(4), BEYOND);
    due("missing", x.crossings(0), MISSING);
    x.sheet(0, 16, 3);
    due("no cards", x.crossings(0), NONE);
    x.card(0xff, 0);
    due("all far", x.crossings(0), 48);
    x.card(0x0f, 0);
    x.write(0, 0, 0xffff);
    x.write(0, 1, 0x0f1f);
    due("to the nearest", x.crossings(0), 0 + 1 + 8);

    x = woven(41, 0x81, 0x02);
    due("no such sheet", x.mark(4), BEYOND);
    due("missing", x.mark(0), MISSING);
    x.sheet(0, 64, 3);
    due("more", x.mark(0), SIZE);
    x.sheet(0, 64, 1);
    due("fewer", x.mark(0), SIZE);
    x.sheet(0, 64, 2);
    x.draw(0);
    due("no mark", x.mark(0), NONE);
    x.write(0, 1, 0x70202L);
    due("above 16 bits", x.mark(0), NONE);
    x.write(0, 1, 0x8202);
    due("mark", x.mark(0), 115);
    x.write(0, 0, 0x8180);
    due("two marks", x.mark(0), NONE);
    x.write(0, 1, 0x0202);
    due("mark", x.mark(0), 0);
    x.write(0, 0, 0x8190);
    due("two in a row", x.mark(0), NONE);
    x.draw(0);
    x.tie(3, 7);
    due("the cloth has changed", x.mark(0), 3);

    x = woven(42, 0x01, 0x02, 0x02);
    due("no such sheet", x.order(4), BEYOND);
    due("missing", x.order(0), MISSING);
    x.sheet(0, 64, 5);
    x.write(0, 0, 0x50202L);
    x.write(0, 1, 0x0101);
    x.write(0, 3, 0x0101);
    due("to the first that none weaves", x.order(0), 2);
    due("the least", x.woven(0), 1);
    due("woven", x.woven(1), 0);
    due("rows", x.count(2), 2);
    x.write(0, 0, 3);
    due("none", x.order(0), 0);
    due("rows", x.count(2), 0);
    x.card(0, 0);
    x.sheet(0, 8, 21);
    due("20 at most", x.order(0), 20);
    due("rows", x.count(2), 20);
  }

  private static void images() {
    LoomCards x = begin(43);
    x.card(1, 2);
    x.pick(0);
    x.law(3, 4);
    x.sheet(0, 8, 1);
    x.feed(0x20, 1);
    due("image", x.image(), 1);
    x.punch(0, 1, 1);
    x.punch(0, 2, 2);
    x.card(0, 0);
    x.tie(5, 0);
    x.pick(1);
    x.drop();
    x.drop();
    x.pick(1);
    x.set(0, 9);
    x.force(0, false);
    x.law(0, 1);
    x.write(0, 0, 7);
    x.feed(0x20, 1);
    due("undo", x.undo(), 1);
    due("holes", x.of(0, 0), 1);
    due("eaten", x.of(0, 1), 2);
    due("tied", x.tied(5), 5);
    due("rows", x.count(2), 1);
    due("woven", x.woven(0), 0);
    due("laws", x.count(1), 1);
    due("kind", x.lawOf(0, 0), 3);
    due("n", x.lawOf(0, 1), 4);
    due("in force", x.lawOf(0, 2), 1);
    due("the tape is not kept", x.count(4), 2);
    due("sheets are not kept", x.write(0, 0, 0), 7);

    promise = 44;
    x.card(0, 0);
    x.card(0, 0);
    due("it stays", x.undo(), 1);
    x.card(0, 0);
    x.image();
    x.card(0, 0);
    due("the latest", x.undo(), 2);
    due("findings are not taken back", x.status(-1), 0);
    x.pick(9);
    x.undo();
    due("findings are not taken back", x.status(-1), 1);
    x = begin(44);
    due("nothing is kept", x.undo(), NONE);
    x.image();
    due("no cards", x.undo(), 0);

    x = begin(45);
    due("nothing was", x.tear(), 0);
    x.card(0, 0);
    x.image();
    x.card(0, 0);
    x.image();
    due("something was", x.tear(), 1);
    due("nothing is", x.tear(), 0);
    due("undo", x.undo(), NONE);
    due("nothing changes", x.count(0), 2);
  }

  private static void counts() {
    LoomCards x = begin(46);
    x.card(0, 0x03);
    x.card(0, 0x1c);
    x.card(0, 0);
    x.pick(0);
    x.pick(0);
    x.law(0, 1);
    x.law(0, 1);
    x.law(0, 1);
    x.law(0, 1);
    x.force(2, false);
    x.feed(0, 4);
    x.feed(0, 2);
    int[] want = {3, 4, 2, 5, 6, 3};
    for (int what = 0; what < 6; what++) due("count " + what, x.count(what), want[what]);
    due("what 6", x.count(6), BEYOND);
    due("what -1", x.count(-1), BEYOND);

    x = begin(47);
    for (int which = -1; which <= 6; which++) due("status", x.status(which), 0);
    due("another one", x.status(7), BEYOND);
    due("counted from then on", x.status(0), 1);
    due("another one", x.status(-2), BEYOND);
    x.drop();
    x.draw(0);
    x.draw(0);
    x.sheet(0, 8, -1);
    x.sheet(0, 8, 0);
    x.sheet(1, 16, 0);
    x.copy(0, 0, 1, 0, 0);
    x.law(2, 1);
    x.as(0, 1);
    x.as(0, 3);
    x.card(0, 0);
    x.sure(0, 0);
    for (int c = 1; c < 14; c++) x.card(0, 0);
    x.write(2, 0, 0);
    x.loom();
    int[] counts = {15, 2, 4, 3, 1, 1, 3, 1};
    for (int which = -1; which <= 6; which++) due("status " + which, x.status(which), counts[which + 1]);
  }
}
