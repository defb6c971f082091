import java.util.ArrayList;
import java.util.Arrays;
import java.util.HashSet;
import java.util.List;
import java.util.TreeSet;
import java.util.regex.Matcher;
import java.util.regex.Pattern;

/**
 * The document once more, as slow and as near to its words as can be, for LoomCardsModelTest to
 * tell the class against. It shares no code with the class, and holds things another way: a card
 * is 8 values, a row 16 booleans, the text a String.
 */
final class LoomModel {
  static final int BEYOND = -1000000001, FULL = -1000000002, KIND = -1000000003,
      NONE = -1000000004, STATE = -1000000005, MISSING = -1000000006, SIZE = -1000000007;
  private static final List<String> NAMES = List.of("law", "even", "long", "step", "tight", "turn");

  record Law(int kind, int n, boolean is) { }

  private List<int[]> cards = new ArrayList<>();
  private int[] ties = new int[16];
  private List<Integer> order = new ArrayList<>();
  private List<Law> laws = new ArrayList<>();
  private LoomModel image = null;
  private String tape = "";
  private final int[] bits = new int[4];
  private final long[][] sheets = new long[4][];
  private final List<Integer> findings = new ArrayList<>();

  LoomModel() {
    for (int t = 0; t < 16; t++) ties[t] = t % 8;
  }

  private int no(int finding) {
    findings.add(finding);
    return finding;
  }

  private void takeFrom(LoomModel other) {
    cards = new ArrayList<>();
    for (int[] c : other.cards) cards.add(c.clone());
    ties = other.ties.clone();
    order = new ArrayList<>(other.order);
    laws = new ArrayList<>(other.laws);
  }

  // ---- what the words mean

  private boolean isCard(int c) { return 0 <= c && c < cards.size(); }
  private boolean isLaw(int l) { return 0 <= l && l < laws.size(); }
  private static boolean in(int v, int low, int high) { return low <= v && v <= high; }

  private boolean[] threadsOf(int[] card) {
    boolean[] up = new boolean[16];
    for (int t = 0; t < 16; t++) up[t] = card[ties[t]] == 1;
    return up;
  }

  private List<boolean[]> cloth(List<int[]> woven) {
    List<boolean[]> rows = new ArrayList<>();
    for (int[] c : woven) rows.add(threadsOf(c));
    return rows;
  }

  private List<int[]> wovenBy(List<Integer> numbers, List<int[]> of) {
    List<int[]> woven = new ArrayList<>();
    for (int c : numbers) woven.add(of.get(c));
    return woven;
  }

  private List<boolean[]> cloth() { return cloth(wovenBy(order, cards)); }

  private static int asSet(boolean[] row) {
    int set = 0;
    for (int t = 0; t < row.length; t++) if (row[t]) set += (int) Math.pow(2, t);
    return set;
  }

  private static int ups(boolean[] row) {
    int n = 0;
    for (boolean b : row) if (b) n++;
    return n;
  }

  private static int longestRun(boolean[] seen) {
    int best = 0;
    for (int a = 0; a < seen.length; a++) {
      int b = a;
      while (b < seen.length && seen[b] == seen[a]) b++;
      best = Math.max(best, b - a);
    }
    return best;
  }

  private static int widest(List<boolean[]> rows) {
    int best = 0;
    for (boolean[] row : rows) best = Math.max(best, longestRun(row));
    return best;
  }

  private static int tallest(List<boolean[]> rows) {
    int best = 0;
    for (int t = 0; t < 16; t++) best = Math.max(best, longestRun(column(rows, t)));
    return best;
  }

  private static boolean[] column(List<boolean[]> rows, int t) {
    boolean[] column = new boolean[rows.size()];
    for (int i = 0; i < column.length; i++) column[i] = rows.get(i)[t];
    return column;
  }

  private boolean kept(int kind, int n, List<int[]> woven) {
    List<boolean[]> rows = cloth(woven);
    switch (NAMES.get(kind)) {
      case "law":
        for (boolean[] row : rows) if (ups(row) > n) return false;
        return true;
      case "even":
        for (boolean[] row : rows) if (ups(row) % 2 != 0) return false;
        return kept(0, n, woven);
      case "long":
        return widest(rows) <= n;
      case "tight":
        return widest(rows) <= n && tallest(rows) <= n;
      case "step":
        for (int i = 1; i < woven.size(); i++) {
          for (int h = 0; h < 8; h++) {
            boolean here = woven.get(i)[(h + 1) % 8] == 1;
            boolean ahead = woven.get(i - 1)[h] == 1;
            if (here != ahead) return false;
          }
        }
        return kept(1, n, woven);
      default:
        boolean same = true;
        for (int i = 0; i < rows.size(); i++) {
          same &= Arrays.equals(rows.get(i), rows.get(rows.size() - 1 - i));
        }
        return same || kept(3, n, woven);
    }
  }

  private boolean allKept(List<int[]> woven) {
    for (Law l : laws) if (l.is && !kept(l.kind, l.n, woven)) return false;
    return true;
  }

  private List<int[]> places() {
    List<int[]> places = new ArrayList<>();
    for (int c : new TreeSet<>(order)) {
      for (int h = 0; h < 8; h++) if (cards.get(c)[h] == 2) places.add(new int[] {c, h});
    }
    return places;
  }

  private List<Integer> allWays() {
    List<int[]> places = places();
    List<Integer> kept = new ArrayList<>();
    List<int[]> filled = new ArrayList<>();
    for (int[] c : cards) filled.add(c.clone());
    for (int way = 0; way < 1 << places.size(); way++) {
      for (int p = 0; p < places.size(); p++) {
        filled.get(places.get(p)[0])[places.get(p)[1]] = way >> p & 1;
      }
      if (allKept(wovenBy(order, filled))) kept.add(way);
    }
    return kept;
  }

  private List<List<Integer>> allOrders(List<Integer> begun, TreeSet<Integer> left) {
    List<List<Integer>> all = new ArrayList<>();
    if (left.isEmpty()) {
      if (allKept(wovenBy(begun, cards))) all.add(begun);
      return all;
    }
    for (int c : left) {
      List<Integer> longer = new ArrayList<>(begun);
      longer.add(c);
      TreeSet<Integer> fewer = new TreeSet<>(left);
      fewer.remove(c);
      all.addAll(allOrders(longer, fewer));
    }
    return all;
  }

  private static TreeSet<Integer> members(int set) {
    TreeSet<Integer> members = new TreeSet<>();
    for (int b = 0; b < 32; b++) if ((set >>> b) % 2 == 1) members.add(b);
    return members;
  }

  // ---- cards

  int card(int holes, int eaten) {
    if (!in(holes, 0, 255) || !in(eaten, 0, 255)) return no(BEYOND);
    int[] c = new int[8];
    for (int h : members(holes)) c[h] += 1;
    for (int h : members(eaten)) c[h] += 2;
    for (int v : c) if (v == 3) return no(BEYOND);
    if (cards.size() == 10) return no(FULL);
    cards.add(c);
    return cards.size() - 1;
  }

  private static int where(int[] card, int v) {
    int set = 0;
    for (int h = 0; h < 8; h++) if (card[h] == v) set += 1 << h;
    return set;
  }

  int of(int c, int what) {
    if (!isCard(c) || !in(what, 0, 4)) return no(BEYOND);
    if (what == 0) return where(cards.get(c), 1);
    if (what == 1) return where(cards.get(c), 2);
    if (what == 2) return members(where(cards.get(c), 1)).size();
    if (what == 3) return (int) order.stream().filter(o -> o == c).count();
    return asSet(threadsOf(cards.get(c)));
  }

  int punch(int c, int h, int v) {
    if (!isCard(c) || !in(h, 0, 7) || !in(v, 0, 2)) return no(BEYOND);
    int was = cards.get(c)[h];
    cards.get(c)[h] = v;
    return was;
  }

  int at(int c, int h) {
    if (!isCard(c) || !in(h, 0, 7)) return no(BEYOND);
    return cards.get(c)[h];
  }

  int twin(int c) {
    if (!isCard(c)) return no(BEYOND);
    for (int o = 0; o < cards.size(); o++) {
      if (o != c && Arrays.equals(cards.get(o), cards.get(c))) return o;
    }
    return no(NONE);
  }

  // ---- threads, the order

  int tie(int t, int h) {
    if (!in(t, 0, 15) || !in(h, 0, 7)) return no(BEYOND);
    int was = ties[t];
    ties[t] = h;
    return was;
  }

  int tied(int t) { return in(t, 0, 15) ? ties[t] : no(BEYOND); }

  int pick(int c) {
    if (!isCard(c)) return no(BEYOND);
    if (order.size() == 20) return no(FULL);
    order.add(c);
    return order.size();
  }

  int drop() { return order.isEmpty() ? no(NONE) : order.remove(order.size() - 1); }

  int woven(int i) { return in(i, 0, order.size() - 1) ? order.get(i) : no(BEYOND); }

  int row(int i) { return in(i, 0, order.size() - 1) ? asSet(cloth().get(i)) : no(BEYOND); }

  // ---- laws

  int law(int kind, int n) {
    if (!in(kind, 0, 5) || !in(n, 1, 16)) return no(BEYOND);
    if (laws.size() == 6) return no(FULL);
    laws.add(new Law(kind, n, true));
    return laws.size() - 1;
  }

  int lawOf(int l, int what) {
    if (!isLaw(l) || !in(what, 0, 3)) return no(BEYOND);
    Law law = laws.get(l);
    if (what == 0) return law.kind;
    if (what == 1) return law.n;
    if (what == 2) return law.is ? 1 : 0;
    return kept(law.kind, law.n, wovenBy(order, cards)) ? 1 : 0;
  }

  int set(int l, int v) {
    if (!isLaw(l) || !in(v, 1, 16)) return no(BEYOND);
    Law law = laws.get(l);
    laws.set(l, new Law(law.kind, v, law.is));
    return law.n;
  }

  int force(int l, boolean is) {
    if (!isLaw(l)) return no(BEYOND);
    Law law = laws.get(l);
    laws.set(l, new Law(law.kind, law.n, is));
    return law.is != is ? 1 : 0;
  }

  int as(int l, int kind) {
    if (!isLaw(l) || !in(kind, 0, 5)) return no(BEYOND);
    List<List<Integer>> chains = List.of(List.of(0), List.of(1, 0), List.of(2, 0),
        List.of(3, 1, 0), List.of(4, 2, 0), List.of(5, 3, 1, 0));
    return chains.get(laws.get(l).kind).contains(kind) ? laws.get(l).n : no(KIND);
  }

  int broken() {
    for (int l = 0; l < laws.size(); l++) {
      Law law = laws.get(l);
      if (law.is && !kept(law.kind, law.n, wovenBy(order, cards))) return l;
    }
    return no(NONE);
  }

  int floats(int what) {
    if (!in(what, 0, 1)) return no(BEYOND);
    return what == 0 ? widest(cloth()) : tallest(cloth());
  }

  // ---- eaten places

  int ways() { return places().size() > 12 ? no(SIZE) : allWays().size(); }

  int sure(int c, int h) {
    if (!isCard(c) || !in(h, 0, 7)) return no(BEYOND);
    if (!order.contains(c)) return no(STATE);
    if (places().size() > 12) return no(SIZE);
    List<Integer> ways = allWays();
    if (ways.isEmpty()) return no(NONE);
    HashSet<Integer> seen = new HashSet<>();
    List<int[]> places = places();
    for (int way : ways) {
      int has = cards.get(c)[h];
      for (int p = 0; p < places.size(); p++) {
        if (places.get(p)[0] == c && places.get(p)[1] == h) has = way >> p & 1;
      }
      seen.add(has);
    }
    return seen.size() == 1 ? seen.iterator().next() : 2;
  }

  int fill(int i) {
    if (i < 0) return no(BEYOND);
    List<int[]> places = places();
    if (places.size() > 12) return no(SIZE);
    List<Integer> ways = allWays();
    if (i >= ways.size()) return no(NONE);
    for (int p = 0; p < places.size(); p++) {
      cards.get(places.get(p)[0])[places.get(p)[1]] = ways.get(i) >> p & 1;
    }
    return places.size();
  }

  int ask() {
    List<int[]> places = places();
    if (places.size() > 12) return no(SIZE);
    if (places.isEmpty()) return no(NONE);
    List<Integer> ways = allWays();
    int best = -1;
    int least = Integer.MAX_VALUE;
    for (int p = 0; p < places.size(); p++) {
      int[] left = new int[2];
      for (int way : ways) left[way >> p & 1]++;
      int worse = Math.max(left[0], left[1]);
      if (worse < least) {
        least = worse;
        best = 10 * places.get(p)[0] + places.get(p)[1];
      }
    }
    return best;
  }

  // ---- orders

  int orders(int set) {
    for (int c : members(set)) if (!isCard(c)) return no(BEYOND);
    if (members(set).size() > 6) return no(SIZE);
    return allOrders(new ArrayList<>(), members(set)).size();
  }

  int lay(int set, int i) {
    for (int c : members(set)) if (!isCard(c)) return no(BEYOND);
    if (i < 0) return no(BEYOND);
    if (members(set).size() > 6) return no(SIZE);
    List<List<Integer>> all = allOrders(new ArrayList<>(), members(set));
    if (i >= all.size()) return no(NONE);
    order = new ArrayList<>(all.get(i));
    return order.size();
  }

  int repeat() {
    List<boolean[]> rows = cloth();
    if (rows.isEmpty()) return no(NONE);
    for (int p = 1; ; p++) {
      boolean so = true;
      for (int i = p; i < rows.size(); i++) so &= Arrays.equals(rows.get(i), rows.get(i - p));
      if (so) return p;
    }
  }

  int unlike() {
    HashSet<Integer> seen = new HashSet<>();
    for (boolean[] row : cloth()) seen.add(asSet(row));
    return seen.size();
  }

  int tells() {
    for (int size = 0; size <= 8; size++) {
      for (int set = 0; set < 256; set++) {
        if (members(set).size() == size && tellsApart(members(set))) return set;
      }
    }
    throw new IllegalStateException("all hooks tell");
  }

  private boolean tellsApart(TreeSet<Integer> hooks) {
    for (int[] a : cards) {
      for (int[] b : cards) {
        boolean told = Arrays.equals(a, b);
        for (int h : hooks) told |= a[h] != b[h];
        if (!told) return false;
      }
    }
    return true;
  }

  int thread(int t, int what) {
    if (!in(t, 0, 15) || !in(what, 0, 1)) return no(BEYOND);
    boolean[] column = column(cloth(), t);
    if (what == 0) return ups(column);
    int changes = 0;
    for (int i = 1; i < column.length; i++) if (column[i] != column[i - 1]) changes++;
    return changes;
  }

  // ---- the text

  int feed(int bytes, int n) {
    if (!in(n, 1, 4)) return no(BEYOND);
    if (tape.length() + n > 120) return no(FULL);
    String four = "" + (char) (bytes >>> 24) + (char) (bytes >>> 16 & 255)
        + (char) (bytes >>> 8 & 255) + (char) (bytes & 255);
    tape += four.substring(4 - n);
    return tape.length();
  }

  int wipe() {
    int had = tape.length();
    tape = "";
    return had;
  }

  int loom() {
    String text = tape;
    tape = "";
    LoomModel next = new LoomModel();
    next.takeFrom(this);
    List<String> tokens = new ArrayList<>();
    List<Integer> starts = new ArrayList<>();
    Matcher m = Pattern.compile("[a-z]+|[0-9]+|[#.?]+|[^ ]", Pattern.DOTALL).matcher(text);
    while (m.find()) {
      tokens.add(m.group());
      starts.add(m.start());
    }
    tokens.add("");
    starts.add(text.length());
    int items = 0;
    int k = 0;
    while (true) {
      int stopped = next.item(tokens, k);
      if (stopped < 0) return -1 - starts.get(-1 - stopped);
      items++;
      String behind = tokens.get(stopped);
      if (behind.isEmpty()) {
        takeFrom(next);
        return items;
      }
      if (!behind.equals(";")) return -1 - starts.get(stopped);
      k = stopped + 1;
    }
  }

  private static boolean isNumber(String token, int low, int high) {
    if (!token.matches("0*[0-9]{1,3}")) return false;
    return in(Integer.parseInt(token), low, high);
  }

  /** The token behind the item at k, or -1 less the one that can't stand. */
  private int item(List<String> tokens, int k) {
    String word = tokens.get(k);
    if (word.equals("card") && cards.size() < 10) {
      if (!tokens.get(k + 1).matches("[#.?]{8}")) return -1 - (k + 1);
      int[] c = new int[8];
      for (int h = 0; h < 8; h++) c[h] = ".#?".indexOf(tokens.get(k + 1).charAt(h));
      cards.add(c);
      return k + 2;
    }
    if (word.equals("tie")) {
      if (!isNumber(tokens.get(k + 1), 0, 15)) return -1 - (k + 1);
      if (!isNumber(tokens.get(k + 2), 0, 7)) return -1 - (k + 2);
      ties[Integer.parseInt(tokens.get(k + 1))] = Integer.parseInt(tokens.get(k + 2));
      return k + 3;
    }
    if (word.equals("order")) {
      order.clear();
      int j = k + 1;
      while (order.size() < 20 && isNumber(tokens.get(j), 0, cards.size() - 1)) {
        order.add(Integer.parseInt(tokens.get(j)));
        j++;
      }
      return order.isEmpty() ? -1 - j : j;
    }
    if (NAMES.contains(word) && laws.size() < 6) {
      if (!isNumber(tokens.get(k + 1), 1, 16)) return -1 - (k + 1);
      laws.add(new Law(NAMES.indexOf(word), Integer.parseInt(tokens.get(k + 1)), true));
      return k + 2;
    }
    return -1 - k;
  }

  // ---- sheets

  int sheet(int s, int b, int n) {
    if (!in(s, 0, 3) || !List.of(0, 8, 16, 64).contains(b)) return no(BEYOND);
    if (n < 0) return no(SIZE);
    if (n > 40) return no(BEYOND);
    bits[s] = b;
    sheets[s] = b == 0 ? null : new long[n];
    return b == 0 ? 0 : n;
  }

  private int look(int s) {
    if (!in(s, 0, 3)) return BEYOND;
    return sheets[s] == null ? MISSING : 0;
  }

  private int look(int s, int i) {
    if (look(s) != 0) return look(s);
    return in(i, 0, sheets[s].length - 1) ? 0 : BEYOND;
  }

  private static long cut(long v, int bits) {
    return bits == 8 ? (byte) v : bits == 16 ? (short) v : v;
  }

  long write(int s, int i, long v) {
    if (look(s, i) != 0) return no(look(s, i));
    long was = sheets[s][i];
    sheets[s][i] = cut(v, bits[s]);
    return was;
  }

  int copy(int s, int from, int t, int to, int n) {
    if (!in(s, 0, 3) || !in(t, 0, 3)) return no(BEYOND);
    if (sheets[s] == null || sheets[t] == null) return no(MISSING);
    if (bits[s] != bits[t]) return no(KIND);
    if (from < 0 || to < 0 || n < 0) return no(BEYOND);
    if ((long) from + n > sheets[s].length || (long) to + n > sheets[t].length) return no(BEYOND);
    long[] were = sheets[s].clone();
    for (int i = 0; i < n; i++) sheets[t][to + i] = were[from + i];
    return n;
  }

  int draw(int s) {
    if (look(s) != 0) return no(look(s));
    int n = 0;
    for (boolean[] row : cloth()) {
      if (n == sheets[s].length) break;
      sheets[s][n++] = cut(asSet(row), bits[s]);
    }
    return n;
  }

  private static int told(long number) { return (int) (number & 0xffff); }

  int read(int s) {
    if (look(s) != 0) return no(look(s));
    List<boolean[]> rows = cloth();
    for (int i = 0; i < sheets[s].length; i++) {
      if (i >= rows.size() || told(sheets[s][i]) != asSet(rows.get(i))) return 1 + i;
    }
    return sheets[s].length < rows.size() ? 1 + sheets[s].length : 0;
  }

  private int weaver(int threads) {
    for (int c = 0; c < cards.size(); c++) {
      if (asSet(threadsOf(cards.get(c))) == threads) return c;
    }
    return -1;
  }

  private static int far(int a, int b) { return members(a ^ b).size(); }

  int whose(int s, int i) {
    if (look(s, i) != 0) return no(look(s, i));
    int c = weaver(told(sheets[s][i]));
    return c < 0 ? no(NONE) : c;
  }

  private int[] near(int threads) {
    int[] best = {-1, 99};
    for (int c = 0; c < cards.size(); c++) {
      int far = far(asSet(threadsOf(cards.get(c))), threads);
      if (far < best[1]) best = new int[] {c, far};
    }
    return best;
  }

  int nearest(int s, int i) {
    if (look(s, i) != 0) return no(look(s, i));
    return cards.isEmpty() ? no(NONE) : near(told(sheets[s][i]))[0];
  }

  int crossings(int s) {
    if (look(s) != 0) return no(look(s));
    if (cards.isEmpty()) return no(NONE);
    int sum = 0;
    for (long v : sheets[s]) sum += near(told(v))[1];
    return sum;
  }

  int mark(int s) {
    if (look(s) != 0) return no(look(s));
    List<boolean[]> rows = cloth();
    if (sheets[s].length != rows.size()) return no(SIZE);
    List<Integer> marks = new ArrayList<>();
    for (int i = 0; i < rows.size(); i++) {
      for (int t : members(told(sheets[s][i]) ^ asSet(rows.get(i)))) marks.add(100 * i + t);
    }
    return marks.size() == 1 ? marks.get(0) : no(NONE);
  }

  int order(int s) {
    if (look(s) != 0) return no(look(s));
    order = new ArrayList<>();
    for (long v : sheets[s]) {
      int c = weaver(told(v));
      if (c < 0 || order.size() == 20) break;
      order.add(c);
    }
    return order.size();
  }

  // ---- images

  int image() {
    image = new LoomModel();
    image.takeFrom(this);
    return 1;
  }

  int undo() {
    if (image == null) return no(NONE);
    takeFrom(image);
    return cards.size();
  }

  int tear() {
    int was = image == null ? 0 : 1;
    image = null;
    return was;
  }

  int count(int what) {
    int eaten = 0;
    for (int[] c : cards) for (int v : c) if (v == 2) eaten++;
    int forced = 0;
    for (Law l : laws) if (l.is) forced++;
    int[] counts = {cards.size(), laws.size(), order.size(), eaten, tape.length(), forced};
    return in(what, 0, 5) ? counts[what] : no(BEYOND);
  }

  int status(int which) {
    if (!in(which, -1, 6)) return no(BEYOND);
    if (which == -1) return findings.size();
    int n = 0;
    for (int f : findings) if (f == BEYOND - which) n++;
    return n;
  }
}
