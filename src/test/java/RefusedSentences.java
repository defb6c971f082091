import java.util.ArrayList;
import java.util.List;
import java.util.function.Supplier;
import java.util.function.ToLongFunction;

/**
 * "One that answers a finding changes nothing but status()": two objects are made alike, one of
 * them is asked for what it refuses, and then all that can be seen of both is told against each
 * other.
 */
final class RefusedSentences extends Sentences {

  private static void refused(Supplier<LoomCards> made, String call, int finding, ToLongFunction<LoomCards> asked) {
    LoomCards x = made.get();
    LoomCards untouched = made.get();
    due(call, asked.applyAsLong(x), finding);
    for (int which = -1; which <= 6; which++) {
      int more = which == -1 || which == BEYOND - finding ? 1 : 0;
      due("status(" + which + ") behind " + call, x.status(which), untouched.status(which) + more);
    }
    List<String> names = new ArrayList<>();
    List<Long> want = seen(untouched, names);
    List<Long> got = seen(x, new ArrayList<>());
    due("how much is seen behind " + call, got.size(), want.size());
    for (int i = 0; i < Math.min(got.size(), want.size()); i++) {
      due(names.get(i) + " behind " + call, got.get(i), want.get(i));
    }
  }

  // ---- all that can be seen; it is used up by that

  private static List<Long> seen(LoomCards x, List<String> names) {
    List<Long> seen = new ArrayList<>();
    seeLoom(x, "", seen, names);
    for (int s = 0; s < 4; s++) seeBits(x, s, seen, names);
    for (int s = 0; s < 4; s++) seeNumbers(x, s, seen, names);
    see("undo()", x.undo(), seen, names);
    seeLoom(x, "kept: ", seen, names);
    see("tear()", x.tear(), seen, names);
    see("loom()", x.loom(), seen, names);
    for (int t = 0; t < 16; t++) see("tied(" + t + ") by the tape", x.tied(t), seen, names);
    for (int i = 0; i < x.count(2); i++) see("woven(" + i + ") by the tape", x.woven(i), seen, names);
    return seen;
  }

  private static void see(String name, long v, List<Long> seen, List<String> names) {
    seen.add(v);
    names.add(name);
  }

  private static void seeLoom(LoomCards x, String when, List<Long> seen, List<String> names) {
    for (int what = 0; what <= 5; what++) see(when + "count(" + what + ")", x.count(what), seen, names);
    for (int c = 0; c < x.count(0); c++) {
      see(when + "holes of " + c, x.of(c, 0), seen, names);
      see(when + "eaten of " + c, x.of(c, 1), seen, names);
    }
    for (int t = 0; t < 16; t++) see(when + "tied(" + t + ")", x.tied(t), seen, names);
    for (int i = 0; i < x.count(2); i++) see(when + "woven(" + i + ")", x.woven(i), seen, names);
    for (int l = 0; l < x.count(1); l++) {
      for (int what = 0; what <= 2; what++) see(when + "lawOf(" + l + ", " + what + ")", x.lawOf(l, what), seen, names);
    }
  }

  private static void seeBits(LoomCards x, int s, List<Long> seen, List<String> names) {
    for (int t = s; t < 4; t++) see("copy(" + s + ", 0, " + t + ", 0, 0)", x.copy(s, 0, t, 0, 0), seen, names);
  }

  private static void seeNumbers(LoomCards x, int s, List<Long> seen, List<String> names) {
    for (int i = 0; i <= 6; i++) see("write(" + s + ", " + i + ", 0)", x.write(s, i, -2), seen, names);
    see("bits of " + s, x.write(s, 0, 0), seen, names);
  }

  // ---- looms that refuse

  private static void threeSheets(LoomCards x) {
    x.sheet(0, 16, 5);
    x.sheet(1, 8, 3);
    x.sheet(2, 64, 5);
    for (int i = 0; i < 5; i++) {
      x.write(0, i, 1000 + i);
      x.write(1, i, 10 + i);
      x.write(2, i, 1L << 40 | i);
    }
  }

  /** As much of all as can be, and an image of less. */
  private static LoomCards full() {
    LoomCards x = new LoomCards();
    for (int c = 0; c < 10; c++) {
      x.card(1 << c % 8, c == 4 ? 1 << 7 : 0);
      if (c == 6) x.image();
    }
    for (int i = 0; i < 20; i++) x.pick(i * 7 % 10);
    for (int l = 0; l < 6; l++) x.law(l, 16 - l);
    x.force(3, false);
    x.tie(9, 4);
    threeSheets(x);
    String text = "tie 0 5;tie 15 2;order 3 4 3";
    feed(x, text + " ".repeat(120 - text.length()));
    return x;
  }

  /** Something of all but an image, and 13 places in the order; the last card does not stand in it. */
  private static LoomCards eaten() {
    LoomCards x = new LoomCards();
    x.pick(x.card(0, 255));
    x.pick(x.card(1, 0x3e));
    x.card(0, 0);
    x.law(LAW, 16);
    x.law(LONG, 16);
    x.tie(2, 7);
    threeSheets(x);
    feed(x, "tie 1 6;order 0");
    return x;
  }

  /** Places, but no ways; and an image with ways. */
  private static LoomCards withoutWays() {
    LoomCards x = new LoomCards();
    x.pick(x.card(3, 0x18));
    x.pick(x.card(1, 0x80));
    x.image();
    x.card(0, 0x0f);
    x.law(STEP, 3);
    threeSheets(x);
    feed(x, "tie 4 4");
    return x;
  }

  private static LoomCards empty() {
    LoomCards x = new LoomCards();
    threeSheets(x);
    x.image();
    return x;
  }

  private static final String SAYS = "one that answers a finding changes nothing but status()";

  @Says(promise = 0, text = SAYS)
  static void refusedCardsChangeNothing() {
    refused(RefusedSentences::full, "card(0, 0)", FULL, x -> x.card(0, 0));
    refused(RefusedSentences::full, "card(3, 3)", BEYOND, x -> x.card(3, 3));
    refused(RefusedSentences::eaten, "card(256, 0)", BEYOND, x -> x.card(256, 0));
    refused(RefusedSentences::eaten, "card(0, -1)", BEYOND, x -> x.card(0, -1));
    refused(RefusedSentences::full, "of(10, 0)", BEYOND, x -> x.of(10, 0));
    refused(RefusedSentences::full, "of(0, 5)", BEYOND, x -> x.of(0, 5));
    refused(RefusedSentences::full, "punch(10, 0, 1)", BEYOND, x -> x.punch(10, 0, 1));
    refused(RefusedSentences::full, "punch(0, 8, 1)", BEYOND, x -> x.punch(0, 8, 1));
    refused(RefusedSentences::full, "punch(0, 1, 3)", BEYOND, x -> x.punch(0, 1, 3));
    refused(RefusedSentences::full, "punch(0, 0, -1)", BEYOND, x -> x.punch(0, 0, -1));
    refused(RefusedSentences::full, "at(0, 8)", BEYOND, x -> x.at(0, 8));
    refused(RefusedSentences::full, "twin(10)", BEYOND, x -> x.twin(10));
    refused(RefusedSentences::full, "twin(4)", NONE, x -> x.twin(4));
  }

  @Says(promise = 0, text = SAYS)
  static void refusedThreadsAndPicksChangeNothing() {
    refused(RefusedSentences::full, "tie(16, 0)", BEYOND, x -> x.tie(16, 0));
    refused(RefusedSentences::full, "tie(0, 8)", BEYOND, x -> x.tie(0, 8));
    refused(RefusedSentences::full, "tied(16)", BEYOND, x -> x.tied(16));
    refused(RefusedSentences::full, "pick(0)", FULL, x -> x.pick(0));
    refused(RefusedSentences::full, "pick(10)", BEYOND, x -> x.pick(10));
    refused(RefusedSentences::eaten, "pick(3)", BEYOND, x -> x.pick(3));
    refused(RefusedSentences::empty, "drop()", NONE, x -> x.drop());
    refused(RefusedSentences::full, "woven(20)", BEYOND, x -> x.woven(20));
    refused(RefusedSentences::full, "row(20)", BEYOND, x -> x.row(20));
  }

  @Says(promise = 0, text = SAYS)
  static void refusedLawsChangeNothing() {
    refused(RefusedSentences::full, "law(0, 1)", FULL, x -> x.law(0, 1));
    refused(RefusedSentences::eaten, "law(6, 1)", BEYOND, x -> x.law(6, 1));
    refused(RefusedSentences::eaten, "law(0, 17)", BEYOND, x -> x.law(0, 17));
    refused(RefusedSentences::full, "lawOf(6, 0)", BEYOND, x -> x.lawOf(6, 0));
    refused(RefusedSentences::full, "lawOf(0, 4)", BEYOND, x -> x.lawOf(0, 4));
    refused(RefusedSentences::full, "set(6, 1)", BEYOND, x -> x.set(6, 1));
    refused(RefusedSentences::full, "set(0, 0)", BEYOND, x -> x.set(0, 0));
    refused(RefusedSentences::full, "set(0, 17)", BEYOND, x -> x.set(0, 17));
    refused(RefusedSentences::full, "force(6, false)", BEYOND, x -> x.force(6, false));
    refused(RefusedSentences::full, "force(-1, true)", BEYOND, x -> x.force(-1, true));
    refused(RefusedSentences::full, "as(0, 6)", BEYOND, x -> x.as(0, 6));
    refused(RefusedSentences::full, "as(4, 1)", KIND, x -> x.as(4, 1));
    refused(RefusedSentences::empty, "broken()", NONE, x -> x.broken());
    refused(RefusedSentences::full, "floats(2)", BEYOND, x -> x.floats(2));
  }

  @Says(promise = 0, text = SAYS)
  static void refusedWaysChangeNothing() {
    refused(RefusedSentences::eaten, "ways()", SIZE, x -> x.ways());
    refused(RefusedSentences::eaten, "sure(0, 8)", BEYOND, x -> x.sure(0, 8));
    refused(RefusedSentences::eaten, "sure(2, 0)", STATE, x -> x.sure(2, 0));
    refused(RefusedSentences::eaten, "sure(0, 0)", SIZE, x -> x.sure(0, 0));
    refused(RefusedSentences::withoutWays, "sure(0, 3)", NONE, x -> x.sure(0, 3));
    refused(RefusedSentences::withoutWays, "fill(-1)", BEYOND, x -> x.fill(-1));
    refused(RefusedSentences::eaten, "fill(0)", SIZE, x -> x.fill(0));
    refused(RefusedSentences::withoutWays, "fill(0)", NONE, x -> x.fill(0));
    refused(RefusedSentences::eaten, "ask()", SIZE, x -> x.ask());
    refused(RefusedSentences::empty, "ask()", NONE, x -> x.ask());
  }

  @Says(promise = 0, text = SAYS)
  static void refusedOrdersChangeNothing() {
    refused(RefusedSentences::eaten, "orders(8)", BEYOND, x -> x.orders(8));
    refused(RefusedSentences::full, "orders(127)", SIZE, x -> x.orders(127));
    refused(RefusedSentences::eaten, "lay(8, 0)", BEYOND, x -> x.lay(8, 0));
    refused(RefusedSentences::eaten, "lay(1, -1)", BEYOND, x -> x.lay(1, -1));
    refused(RefusedSentences::full, "lay(127, 0)", SIZE, x -> x.lay(127, 0));
    refused(RefusedSentences::full, "lay(7, 6)", NONE, x -> x.lay(7, 6));
    refused(RefusedSentences::withoutWays, "lay(3, 0)", NONE, x -> x.lay(3, 0));
    refused(RefusedSentences::empty, "repeat()", NONE, x -> x.repeat());
    refused(RefusedSentences::full, "thread(16, 0)", BEYOND, x -> x.thread(16, 0));
    refused(RefusedSentences::full, "thread(0, 2)", BEYOND, x -> x.thread(0, 2));
  }

  @Says(promise = 0, text = SAYS)
  static void refusedBytesChangeNothing() {
    refused(RefusedSentences::full, "feed(0, 1)", FULL, x -> x.feed(0, 1));
    refused(RefusedSentences::eaten, "feed(0, 0)", BEYOND, x -> x.feed(0, 0));
    refused(RefusedSentences::eaten, "feed(0, 5)", BEYOND, x -> x.feed(0, 5));
    refused(RefusedSentences::almostFullTape, "feed(0, 4)", FULL, x -> x.feed(0, 4));
  }

  private static LoomCards almostFullTape() {
    LoomCards x = new LoomCards();
    feed(x, " ".repeat(110) + "tie 3 4");
    return x;
  }

  @Says(promise = 0, text = SAYS)
  static void refusedSheetsChangeNothing() {
    refused(RefusedSentences::full, "sheet(4, 8, 1)", BEYOND, x -> x.sheet(4, 8, 1));
    refused(RefusedSentences::full, "sheet(0, 32, 1)", BEYOND, x -> x.sheet(0, 32, 1));
    refused(RefusedSentences::full, "sheet(0, 8, -1)", SIZE, x -> x.sheet(0, 8, -1));
    refused(RefusedSentences::full, "sheet(0, 0, -1)", SIZE, x -> x.sheet(0, 0, -1));
    refused(RefusedSentences::full, "sheet(0, 8, 41)", BEYOND, x -> x.sheet(0, 8, 41));
    refused(RefusedSentences::full, "sheet(0, 0, 41)", BEYOND, x -> x.sheet(0, 0, 41));
    refused(RefusedSentences::full, "write(4, 0, 9)", BEYOND, x -> x.write(4, 0, 9));
    refused(RefusedSentences::full, "write(3, 0, 9)", MISSING, x -> x.write(3, 0, 9));
    refused(RefusedSentences::full, "write(0, 5, 9)", BEYOND, x -> x.write(0, 5, 9));
    refused(RefusedSentences::full, "write(0, -1, 9)", BEYOND, x -> x.write(0, -1, 9));
    refused(RefusedSentences::full, "copy(0, 0, 4, 0, 1)", BEYOND, x -> x.copy(0, 0, 4, 0, 1));
    refused(RefusedSentences::full, "copy(0, 0, 3, 0, 1)", MISSING, x -> x.copy(0, 0, 3, 0, 1));
    refused(RefusedSentences::full, "copy(0, 0, 1, 0, 1)", KIND, x -> x.copy(0, 0, 1, 0, 1));
    refused(RefusedSentences::full, "copy(0, 0, 0, 2, 4)", BEYOND, x -> x.copy(0, 0, 0, 2, 4));
    refused(RefusedSentences::full, "copy(0, 2, 0, 0, 4)", BEYOND, x -> x.copy(0, 2, 0, 0, 4));
    refused(RefusedSentences::full, "copy(0, 0, 0, 1, -1)", BEYOND, x -> x.copy(0, 0, 0, 1, -1));
  }

  @Says(promise = 0, text = SAYS)
  static void refusedReadingsChangeNothing() {
    refused(RefusedSentences::full, "draw(4)", BEYOND, x -> x.draw(4));
    refused(RefusedSentences::full, "draw(3)", MISSING, x -> x.draw(3));
    refused(RefusedSentences::full, "read(-1)", BEYOND, x -> x.read(-1));
    refused(RefusedSentences::full, "read(3)", MISSING, x -> x.read(3));
    refused(RefusedSentences::full, "whose(4, 0)", BEYOND, x -> x.whose(4, 0));
    refused(RefusedSentences::full, "whose(3, 0)", MISSING, x -> x.whose(3, 0));
    refused(RefusedSentences::full, "whose(0, 5)", BEYOND, x -> x.whose(0, 5));
    refused(RefusedSentences::full, "whose(0, 0)", NONE, x -> x.whose(0, 0));
    refused(RefusedSentences::full, "nearest(4, 0)", BEYOND, x -> x.nearest(4, 0));
    refused(RefusedSentences::full, "nearest(3, 0)", MISSING, x -> x.nearest(3, 0));
    refused(RefusedSentences::full, "nearest(0, 5)", BEYOND, x -> x.nearest(0, 5));
    refused(RefusedSentences::empty, "nearest(0, 0)", NONE, x -> x.nearest(0, 0));
    refused(RefusedSentences::full, "crossings(4)", BEYOND, x -> x.crossings(4));
    refused(RefusedSentences::full, "crossings(3)", MISSING, x -> x.crossings(3));
    refused(RefusedSentences::empty, "crossings(0)", NONE, x -> x.crossings(0));
    refused(RefusedSentences::full, "mark(4)", BEYOND, x -> x.mark(4));
    refused(RefusedSentences::full, "mark(3)", MISSING, x -> x.mark(3));
    refused(RefusedSentences::full, "mark(0)", SIZE, x -> x.mark(0));
    refused(RefusedSentences::markless, "mark(0)", NONE, x -> x.mark(0));
    refused(RefusedSentences::full, "order(4)", BEYOND, x -> x.order(4));
    refused(RefusedSentences::full, "order(3)", MISSING, x -> x.order(3));
  }

  /** As many rows as numbers, which differ in more than one thread. */
  private static LoomCards markless() {
    LoomCards x = woven(1, 2, 4, 8, 16);
    threeSheets(x);
    return x;
  }

  @Says(promise = 0, text = SAYS)
  static void refusedImagesAndCountsChangeNothing() {
    refused(RefusedSentences::eaten, "undo()", NONE, x -> x.undo());
    refused(RefusedSentences::full, "count(6)", BEYOND, x -> x.count(6));
    refused(RefusedSentences::full, "count(-1)", BEYOND, x -> x.count(-1));
    refused(RefusedSentences::full, "status(7)", BEYOND, x -> x.status(7));
    refused(RefusedSentences::full, "status(-2)", BEYOND, x -> x.status(-2));
  }

  @Says(promise = 0, text = "Each act tells its findings in the order in which they are asked")
  static void aRefusedCallIsCountedOnceEvenWithTwoFindings() {
    LoomCards x = full();
    int all = x.status(-1);
    int beyond = x.status(0);
    x.card(256, 0);
    x.pick(10);
    x.law(6, 0);
    x.feed(0, 5);
    x.lay(127 | 1 << 10, -1);
    due("status(0)", x.status(0), beyond + 5);
    due("status(-1)", x.status(-1), all + 5);
  }
}
