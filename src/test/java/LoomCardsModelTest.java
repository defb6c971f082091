import java.util.ArrayList;
import java.util.List;
import java.util.Random;

/**
 * Random runs of calls (the same ones each time), told against LoomModel. A run prefers one
 * section of calls, so that rare states (a full tape, many eaten places, a long order) come up.
 */
public final class LoomCardsModelTest {
  private static final int CALLS = 47;
  private final Random random;
  private final List<String> calls = new ArrayList<>();
  private LoomCards x = new LoomCards();
  private LoomModel m = new LoomModel();
  private boolean eatenCards = false;

  private LoomCardsModelTest(long seed) {
    // Seeds one behind the other would begin almost alike: all runs would be short ones.
    random = new Random(seed * 0x9E3779B97F4A7C15L);
  }

  public static void main(String[] args) {
    int runs = args.length > 0 ? Integer.parseInt(args[0]) : 4000;
    int calls = 0;
    for (int run = 0; run < runs; run++) {
      LoomCardsModelTest test = new LoomCardsModelTest(run);
      if (!test.agrees()) {
        System.out.println("run " + run + " differs from the model:");
        for (String call : test.calls) System.out.println("  " + call);
        System.exit(1);
      }
      calls += test.calls.size();
    }
    System.out.println(runs + " runs, " + calls + " calls are as in the model");
  }

  private boolean agrees() {
    // An object answers for 512 calls; the last item of a text may need some 60 beyond the length.
    int length = 20 + random.nextInt(random.nextInt(8) == 0 ? 430 : 120);
    int favour = random.nextInt(9);
    begin(favour);
    while (calls.size() < length) {
      int which = random.nextInt(3) > 0 ? favoured(favour) : random.nextInt(CALLS);
      if (!call(which)) return false;
    }
    return true;
  }

  private void begin(int favour) {
    eatenCards = favour == 3;
    int cards = random.nextInt(favour == 3 ? 6 : 8);
    for (int c = 0; c < cards; c++) call(1);
    int picks = cards == 0 ? 0 : random.nextInt(random.nextInt(5) == 0 ? 22 : 6);
    for (int p = 0; p < picks; p++) call(8);
    int sheets = favour == 6 || favour == 7 ? 6 : 0;
    for (int s = 0; s < sheets; s++) call(32);
  }

  private int favoured(int favour) {
    switch (favour) {
      case 0: return 1 + random.nextInt(5);
      case 1: return 6 + random.nextInt(6);
      case 2: return 12 + random.nextInt(7);
      case 3: return 19 + random.nextInt(4);
      case 4: return 23 + random.nextInt(6);
      case 5: return 29 + random.nextInt(3);
      case 6: return 32 + random.nextInt(5);
      case 7: return 35 + random.nextInt(7);
      default: return 42 + random.nextInt(5);
    }
  }

  private int pick(int low, int high) {
    if (random.nextInt(25) == 0) {
      int[] edges = {Integer.MIN_VALUE, Integer.MAX_VALUE, -1, low - 1, high + 1, high, low};
      return edges[random.nextInt(edges.length)];
    }
    return low + random.nextInt(high - low + 1);
  }

  private int card() {
    return pick(0, random.nextInt(5) == 0 ? 9 : Math.max(0, m.count(0) - 1));
  }

  private int lawNumber() {
    return pick(0, random.nextInt(5) == 0 ? 5 : Math.max(0, m.count(1) - 1));
  }

  private int limit() {
    return random.nextBoolean() ? pick(1, 16) : pick(2, 8);
  }

  private int kind() {
    return pick(0, 5);
  }

  private int rowNumber() {
    return pick(0, random.nextInt(5) == 0 ? 19 : Math.max(0, m.count(2) - 1));
  }

  private int cardSet() {
    return random.nextInt(8) == 0 ? pick(0, 1023)
        : random.nextInt(1 << Math.max(0, Math.min(10, m.count(0))));
  }

  private boolean same(String call, long got, long due) {
    calls.add(call + " = " + got + (got == due ? "" : ", the model: " + due));
    return got == due;
  }

  private boolean newCard() {
    int holes = pick(0, 255);
    int eaten = eatenCards || random.nextInt(3) == 0 ? pick(0, 255) : 0;
    if (random.nextInt(12) > 0) eaten &= ~holes;
    if (random.nextInt(4) == 0 && m.count(0) > 0) {
      int before = random.nextInt(m.count(0));
      int ahead = m.of(before, 0);
      holes = random.nextBoolean() ? ahead : (ahead << 1 | ahead >> 7) & 255;
      eaten = random.nextBoolean() ? 0 : m.of(before, 1) & ~holes;
    }
    return same("card(" + holes + ", " + eaten + ")", x.card(holes, eaten), m.card(holes, eaten));
  }

  private boolean punch() {
    int c = card(), h = pick(0, 7), v = eatenCards && random.nextBoolean() ? 2 : pick(0, 2);
    return same("punch(" + c + ", " + h + ", " + v + ")", x.punch(c, h, v), m.punch(c, h, v));
  }

  private boolean call(int which) {
    return which < 24 ? early(which) : which < 33 ? middle(which) : late(which);
  }

  private boolean early(int which) {
    int a, b;
    switch (which) {
      case 0: case 1: return newCard();
      case 2: a = card(); b = pick(0, 4); return same("of(" + a + ", " + b + ")", x.of(a, b), m.of(a, b));
      case 3: return punch();
      case 4: a = card(); b = pick(0, 7); return same("at(" + a + ", " + b + ")", x.at(a, b), m.at(a, b));
      case 5: a = card(); return same("twin(" + a + ")", x.twin(a), m.twin(a));
      case 6: a = pick(0, 15); b = pick(0, 7); return same("tie(" + a + ", " + b + ")", x.tie(a, b), m.tie(a, b));
      case 7: a = pick(0, 15); return same("tied(" + a + ")", x.tied(a), m.tied(a));
      case 8: a = card(); return same("pick(" + a + ")", x.pick(a), m.pick(a));
      case 9: return same("drop()", x.drop(), m.drop());
      case 10: a = rowNumber(); return same("woven(" + a + ")", x.woven(a), m.woven(a));
      case 11: a = rowNumber(); return same("row(" + a + ")", x.row(a), m.row(a));
      case 12: a = kind(); b = limit(); return same("law(" + a + ", " + b + ")", x.law(a, b), m.law(a, b));
      case 13: a = lawNumber(); b = pick(0, 3); return same("lawOf(" + a + ", " + b + ")", x.lawOf(a, b), m.lawOf(a, b));
      case 14: a = lawNumber(); b = limit(); return same("set(" + a + ", " + b + ")", x.set(a, b), m.set(a, b));
      case 15: a = lawNumber(); boolean is = random.nextInt(3) == 0;
        return same("force(" + a + ", " + is + ")", x.force(a, is), m.force(a, is));
      case 16: a = lawNumber(); b = kind(); return same("as(" + a + ", " + b + ")", x.as(a, b), m.as(a, b));
      case 17: return same("broken()", x.broken(), m.broken());
      case 18: a = pick(0, 1); return same("floats(" + a + ")", x.floats(a), m.floats(a));
      case 19: return same("ways()", x.ways(), m.ways());
      case 20: a = card(); b = pick(0, 7); return same("sure(" + a + ", " + b + ")", x.sure(a, b), m.sure(a, b));
      case 21: a = pick(0, random.nextBoolean() ? 3 : 60); return same("fill(" + a + ")", x.fill(a), m.fill(a));
      case 22: return random.nextInt(4) == 0 ? same("ask()", x.ask(), m.ask()) : punch();
      default: a = cardSet(); return same("orders(" + a + ")", x.orders(a), m.orders(a));
    }
  }

  private boolean middle(int which) {
    int a, b, c;
    switch (which) {
      case 24: a = cardSet(); b = pick(0, random.nextBoolean() ? 5 : 720);
        return same("lay(" + a + ", " + b + ")", x.lay(a, b), m.lay(a, b));
      case 25: return same("repeat()", x.repeat(), m.repeat());
      case 26: return same("unlike()", x.unlike(), m.unlike());
      case 27: return same("tells()", x.tells(), m.tells());
      case 28: a = pick(0, 15); b = pick(0, 1); return same("thread(" + a + ", " + b + ")", x.thread(a, b), m.thread(a, b));
      case 29: return random.nextInt(6) == 0 ? rawFeed() : text();
      case 30: return random.nextInt(4) == 0 ? same("wipe()", x.wipe(), m.wipe()) : text();
      case 31: return same("loom()", x.loom(), m.loom());
      default: a = pick(0, 3); b = new int[] {0, 8, 16, 16, 16, 64, 64, 32}[random.nextInt(8)];
        c = random.nextBoolean() ? pick(0, 40) : m.count(2);
        return same("sheet(" + a + ", " + b + ", " + c + ")", x.sheet(a, b, c), m.sheet(a, b, c));
    }
  }

  private boolean late(int which) {
    int a = pick(0, 3), b = pick(0, random.nextBoolean() ? 4 : 39);
    switch (which) {
      case 33: return write(a, b);
      case 34: return copy(a, b);
      case 35: return same("draw(" + a + ")", x.draw(a), m.draw(a));
      case 36: return same("read(" + a + ")", x.read(a), m.read(a));
      case 37: return same("whose(" + a + ", " + b + ")", x.whose(a, b), m.whose(a, b));
      case 38: return same("nearest(" + a + ", " + b + ")", x.nearest(a, b), m.nearest(a, b));
      case 39: return same("crossings(" + a + ")", x.crossings(a), m.crossings(a));
      case 40: return random.nextBoolean() ? marked(a) : same("mark(" + a + ")", x.mark(a), m.mark(a));
      case 41: return same("order(" + a + ")", x.order(a), m.order(a));
      case 42: return same("image()", x.image(), m.image());
      case 43: return same("undo()", x.undo(), m.undo());
      case 44: return random.nextInt(3) > 0 || same("tear()", x.tear(), m.tear());
      case 45: a = pick(0, 5); return same("count(" + a + ")", x.count(a), m.count(a));
      default: a = pick(-1, 6); return same("status(" + a + ")", x.status(a), m.status(a));
    }
  }

  private boolean write(int s, int i) {
    long[] choices = {random.nextLong(), random.nextInt(65536), 255, -1, -1000000001L,
        m.count(0) > 0 ? m.of(random.nextInt(m.count(0)), 4) : 0};
    long v = choices[random.nextInt(choices.length)];
    return same("write(" + s + ", " + i + ", " + v + ")", x.write(s, i, v), m.write(s, i, v));
  }

  private boolean copy(int s, int from) {
    int t = random.nextBoolean() ? s : pick(0, 3), to = pick(0, 12), n = pick(0, 12);
    return same("copy(" + s + ", " + from + ", " + t + ", " + to + ", " + n + ")",
        x.copy(s, from, t, to, n), m.copy(s, from, t, to, n));
  }

  /** A sheet that is as the cloth but for a thread or two. */
  private boolean marked(int s) {
    int rows = m.count(2);
    boolean good = same("sheet(" + s + ", 16, " + rows + ")", x.sheet(s, 16, rows), m.sheet(s, 16, rows))
        && same("draw(" + s + ")", x.draw(s), m.draw(s));
    if (rows > 0) {
      int i = random.nextInt(rows);
      long v = m.row(i) ^ 1 << random.nextInt(16) ^ (random.nextInt(3) == 0 ? 1 << random.nextInt(16) : 0);
      x.row(i);
      good = good && same("write(" + s + ", " + i + ", " + v + ")", x.write(s, i, v), m.write(s, i, v));
    }
    return good && same("mark(" + s + ")", x.mark(s), m.mark(s));
  }

  private boolean rawFeed() {
    int bytes = random.nextInt(), n = pick(1, 4);
    return same("feed(" + bytes + ", " + n + ")", x.feed(bytes, n), m.feed(bytes, n));
  }

  /** An item of a text, sometimes with a byte of it spoilt. */
  private boolean text() {
    StringBuilder b = new StringBuilder(m.count(4) > 0 && random.nextInt(15) > 0 ? ";" : "");
    item(b);
    if (random.nextInt(12) == 0) {
      String bytes = ";# .?a09Z\t\n\u00ff/:`{\"$\u0000";
      b.setCharAt(random.nextInt(b.length()), bytes.charAt(random.nextInt(bytes.length())));
    }
    for (int i = 0; i < b.length(); ) {
      int n = Math.min(1 + random.nextInt(4), b.length() - i);
      int bytes = random.nextInt() << 8 * (n - 1) << 8;
      for (int j = 0; j < n; j++) bytes |= b.charAt(i + j) << 8 * (n - 1 - j);
      if (!same("feed(" + bytes + ", " + n + ")", x.feed(bytes, n), m.feed(bytes, n))) return false;
      i += n;
    }
    return true;
  }

  private void item(StringBuilder b) {
    String[] words = {"card", "card", "tie", "order", "order", "law", "even", "long", "step", "tight",
        "turn", "lawn", "cards"};
    String word = words[random.nextInt(random.nextInt(6) == 0 ? words.length : words.length - 2)];
    b.append(" ".repeat(random.nextInt(2))).append(word).append(" ".repeat(random.nextInt(2)));
    if (word.startsWith("card")) {
      int n = random.nextInt(12) == 0 ? random.nextInt(11) : 8;
      for (int i = 0; i < n; i++) b.append("#.?".charAt(random.nextInt(3)));
    } else if (word.equals("tie")) {
      b.append(random.nextInt(17)).append(' ').append(random.nextInt(9));
    } else if (word.equals("order")) {
      int n = random.nextInt(8) == 0 ? random.nextInt(24) : 1 + random.nextInt(4);
      for (int i = 0; i < n; i++) b.append(' ').append(random.nextInt(Math.min(10, m.count(0) + 2)));
    } else {
      b.append(random.nextInt(6) == 0 ? "00000" : "").append(random.nextInt(18));
      if (random.nextInt(20) == 0) b.append("00000000000000");
    }
    b.append(" ".repeat(random.nextInt(2)));
  }
}
