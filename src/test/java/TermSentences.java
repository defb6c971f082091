/** What the terms say ahead of all promises, but for the text (TextSentences). */
final class TermSentences extends Sentences {

  /** 1 if a law of this kind is kept by what is woven, else 0. */
  private static int kept(LoomCards x, int kind, int n) {
    x.image();
    int kept = x.lawOf(x.law(kind, n), 3);
    x.undo();
    return kept;
  }

  /** One row in which the first so many threads are up. */
  private static LoomCards up(int threads) {
    LoomCards x = woven(1);
    for (int t = 0; t < 16; t++) x.tie(t, t < threads ? 0 : 1);
    return x;
  }

  @Says(promise = 0, text = "An object is used for at most 512 calls after it has been made")
  static void anObjectAnswers512Calls() {
    LoomCards x = new LoomCards();
    for (int i = 0; i < 511; i++) x.drop();
    due("the 512th call", x.status(3), 511);
    LoomCards y = cards(1, 2);
    for (int i = 0; i < 508; i++) y.punch(0, i % 8, i % 3);
    // Behind 508 calls hook 0 had call 504 as its last, hook 3 call 507.
    due("the 511th call", y.at(0, 0), 504 % 3);
    due("the 512th call", y.at(0, 3), 507 % 3);
  }

  @Says(promise = 0, text = "FINDINGS are answers below -1000000000: -1000000001 BEYOND, -1000000002 FULL, -1000000003 KIND, -1000000004 NONE, -1000000005 STATE, -1000000006 MISSING, -1000000007 SIZE")
  static void eachFindingHasItsNumber() {
    LoomCards x = cards(new int[10]);
    x.law(LAW, 1);
    due("BEYOND", x.of(10, 0), -1000000001);
    due("FULL", x.card(0, 0), -1000000002);
    due("KIND", x.as(0, EVEN), -1000000003);
    due("NONE", x.drop(), -1000000004);
    due("STATE", x.sure(0, 0), -1000000005);
    due("MISSING", x.draw(0), -1000000006);
    due("SIZE", x.sheet(0, 8, -1), -1000000007);
  }

  @Says(promise = 0, text = "(in longs, too)")
  static void findingsAreTheSameInLongs() {
    LoomCards x = new LoomCards();
    due("BEYOND", x.write(4, 0, 0), -1000000001L);
    due("MISSING", x.write(0, 0, 0), -1000000006L);
    x.sheet(0, 64, 1);
    due("BEYOND", x.write(0, 1, 0), -1000000001L);
  }

  @Says(promise = 0, text = "Sets are told by bits.")
  static void eachMemberOfASetHasItsBit() {
    for (int hook = 0; hook < 8; hook++) {
      LoomCards x = new LoomCards();
      x.card(1 << hook, 0);
      x.card(0, 1 << hook);
      for (int h = 0; h < 8; h++) due("a hole at " + h, x.at(0, h), h == hook ? 1 : 0);
      for (int h = 0; h < 8; h++) due("eaten at " + h, x.at(1, h), h == hook ? 2 : 0);
    }
    for (int c = 0; c < 10; c++) {
      LoomCards x = tenCards();
      x.lay(1 << c, 0);
      due("the card of bit " + c, x.woven(0), c);
    }
  }

  @Says(promise = 0, text = "HOOKS 0 to 7.")
  static void thereAreEightHooks() {
    for (int hook = 0; hook < 8; hook++) {
      LoomCards x = woven(1 << hook);
      due("at(0, " + hook + ")", x.at(0, hook), 1);
      due("row(0)", x.row(0), 0x101 << hook);
    }
    due("at(0, 8)", cards(255).at(0, 8), BEYOND);
    due("tie(0, 8)", new LoomCards().tie(0, 8), BEYOND);
  }

  @Says(promise = 0, text = "CARDS 0, 1, .. (at most 10)")
  static void thereAreTenCardsAtMost() {
    LoomCards x = new LoomCards();
    for (int c = 0; c < 10; c++) due("card", x.card(0, 0), c);
    due("an 11th by card()", x.card(0, 0), FULL);
    fault(x, "card ........", 0);
    due("cards", x.count(0), 10);
  }

  @Says(promise = 0, text = "a HOLE (1), none (0), or it is EATEN there (2)")
  static void eachHookOfACardHasOneOfThree() {
    LoomCards x = new LoomCards();
    x.card(0x0f, 0x30);
    for (int hook = 0; hook < 8; hook++) due("at(0, " + hook + ")", x.at(0, hook), hook < 4 ? 1 : hook < 6 ? 2 : 0);
    for (int hook = 0; hook < 8; hook++) {
      for (int v = 0; v <= 2; v++) {
        x.punch(0, hook, v);
        due("both at once", x.of(0, 0) & x.of(0, 1), 0);
      }
    }
  }

  @Says(promise = 0, text = "THREADS 0 to 15, each TIED to a HOOK (at first to the rest of its number by 8).")
  static void threadsAreTiedAtFirstToTheirRestBy8() {
    LoomCards x = new LoomCards();
    int[] want = {0, 1, 2, 3, 4, 5, 6, 7, 0, 1, 2, 3, 4, 5, 6, 7};
    for (int t = 0; t < 16; t++) due("tied(" + t + ")", x.tied(t), want[t]);
    due("tied(16)", x.tied(16), BEYOND);
    due("tied(-1)", x.tied(-1), BEYOND);
  }

  @Says(promise = 0, text = "THE ORDER: a row of up to 20 CARDS")
  static void theOrderHas20CardsAtMostHoweverItComes() {
    LoomCards x = cards(0);
    items(x, "order" + " 0".repeat(20), 1);
    due("a 21st by pick()", x.pick(0), FULL);
    x.sheet(0, 8, 40);
    due("by order()", x.order(0), 20);
    due("a 21st by pick()", x.pick(0), FULL);
    fault(x, "order" + " 0".repeat(21), 46);
    due("rows", x.count(2), 20);
  }

  @Says(promise = 0, text = "(the same one may stand in it more than once; empty at first)")
  static void aCardMayStandInTheOrderMoreThanOnce() {
    LoomCards x = cards(1, 2);
    due("rows at first", x.count(2), 0);
    x.pick(1);
    x.pick(1);
    x.pick(0);
    x.pick(1);
    due("of(1, 3)", x.of(1, 3), 3);
    due("row(0)", x.row(0), x.row(3));
    x.punch(1, 7, 1);
    due("both rows change", x.row(0), 0x8282);
    due("both rows change", x.row(3), 0x8282);
  }

  @Says(promise = 0, text = "ROW i of THE CLOTH is woven by the i-th of them: a THREAD is UP in it if that CARD has a HOLE at its HOOK")
  static void eachThreadIsUpByTheHoleAtItsHook() {
    for (int hook = 0; hook < 8; hook++) {
      LoomCards x = woven(255 ^ 1 << hook, 1 << hook);
      for (int t = 0; t < 16; t++) {
        x.tie(t, hook);
        due("row(0), thread " + t, x.row(0) >> t & 1, 0);
        due("row(1), thread " + t, x.row(1) >> t & 1, 1);
        x.tie(t, (hook + 1) % 8);
        due("row(0), thread " + t, x.row(0) >> t & 1, 1);
        due("row(1), thread " + t, x.row(1) >> t & 1, 0);
      }
    }
  }

  @Says(promise = 0, text = "(EATEN counts as none, where nothing else is told)")
  static void eatenCountsAsNone() {
    LoomCards x = new LoomCards();
    x.pick(x.card(0, 255));
    x.card(0, 0);
    x.sheet(0, 16, 1);
    due("row(0)", x.row(0), 0);
    due("of(0, 4)", x.of(0, 4), 0);
    due("of(0, 2)", x.of(0, 2), 0);
    due("thread(0, 0)", x.thread(0, 0), 0);
    due("floats(0)", x.floats(0), 16);
    due("whose(0, 0)", x.whose(0, 0), 0);
    due("crossings(0)", x.crossings(0), 0);
    due("read(0)", x.read(0), 0);
    due("LAW 1", kept(x, LAW, 1), 1);
    due("orders(1)", x.orders(1), 1);
  }

  // ---- laws

  @Says(promise = 0, text = "LAWS 0, 1, .. (at most 6)")
  static void thereAreSixLawsAtMost() {
    LoomCards x = new LoomCards();
    for (int l = 0; l < 6; l++) due("law", x.law(l, 1), l);
    due("a 7th by law()", x.law(0, 1), FULL);
    fault(x, "law 1", 0);
    due("laws", x.count(1), 6);
  }

  @Says(promise = 0, text = "0 LAW, 1 EVEN under LAW, 2 LONG under LAW, 3 STEP under EVEN, 4 TIGHT under LONG, 5 TURN under STEP")
  static void eachKindIsUnderTheOneThatIsTold() {
    int[] over = {-1, LAW, LAW, EVEN, LONG, STEP};
    LoomCards x = new LoomCards();
    for (int kind = 0; kind < 6; kind++) {
      x.law(kind, 7);
      due("as itself", x.as(kind, kind), 7);
      if (kind > 0) due("as the one above", x.as(kind, over[kind]), 7);
      if (kind > 0) due("the one above as this", x.as(over[kind], kind), KIND);
    }
  }

  @Says(promise = 0, text = "each with an N (1 to 16), IN FORCE (at first) or not")
  static void aLawIsInForceAtFirst() {
    LoomCards x = new LoomCards();
    x.law(LAW, 1);
    items(x, "turn 16", 1);
    for (int l = 0; l < 2; l++) due("lawOf(" + l + ", 2)", x.lawOf(l, 2), 1);
    due("count(5)", x.count(5), 2);
  }

  @Says(promise = 0, text = "LAW: in each ROW N THREADS or fewer are UP.")
  static void nThreadsKeepALawAndOneMoreDoesNot() {
    for (int up = 0; up <= 16; up++) {
      LoomCards x = up(up);
      for (int n = 1; n <= 16; n++) due(up + " up, LAW " + n, kept(x, LAW, n), up <= n ? 1 : 0);
    }
  }

  @Says(promise = 0, text = "LAW: in each ROW")
  static void oneRowIsEnoughToBreakALaw() {
    for (int bad = 0; bad < 4; bad++) {
      LoomCards x = woven(1, 2, 4, 8);
      x.punch(bad, 7, 1);
      due("row " + bad, kept(x, LAW, 3), 0);
      due("row " + bad, kept(x, LAW, 4), 1);
    }
  }

  @Says(promise = 0, text = "EVEN: as LAW, and in each ROW an even number of THREADS is UP.")
  static void evenNumbersUpToNKeepEven() {
    for (int up = 0; up <= 16; up++) {
      LoomCards x = up(up);
      for (int n = 1; n <= 16; n++) {
        due(up + " up, EVEN " + n, kept(x, EVEN, n), up <= n && up % 2 == 0 ? 1 : 0);
      }
    }
  }

  @Says(promise = 0, text = "in each ROW an even number of THREADS is UP")
  static void oneOddRowBreaksEven() {
    for (int bad = 0; bad < 4; bad++) {
      LoomCards x = woven(2, 4, 8, 16);
      due("all even", kept(x, EVEN, 16), 1);
      x.tie(15, 0);
      x.punch(bad, 0, 1);
      due("row " + bad + " is odd", kept(x, EVEN, 16), 0);
    }
  }

  @Says(promise = 0, text = "LONG: in no ROW are there more than N THREADS one beside the other (by numbers) that are all UP or all not.")
  static void nThreadsBesideKeepLongAndOneMoreDoesNot() {
    for (int beside = 1; beside <= 16; beside++) {
      LoomCards x = woven(1);
      for (int t = 0; t < 16; t++) x.tie(t, t < beside || (t - beside) % 2 == 1 ? 0 : 1);
      for (int n = 1; n <= 16; n++) due(beside + " up, LONG " + n, kept(x, LONG, n), beside <= n ? 1 : 0);
      x.punch(0, 0, 0);
      x.punch(0, 1, 1);
      for (int n = 1; n <= 16; n++) due(beside + " not, LONG " + n, kept(x, LONG, n), beside <= n ? 1 : 0);
    }
  }

  @Says(promise = 0, text = "LONG: in no ROW")
  static void oneRowIsEnoughToBreakLong() {
    for (int bad = 0; bad < 4; bad++) {
      LoomCards x = woven(0x55, 0xaa, 0x55, 0xaa);
      due("all short", kept(x, LONG, 1), 1);
      x.punch(bad, 3, 1 - x.at(bad, 3));
      due("row " + bad, kept(x, LONG, 2), 0);
      due("row " + bad, kept(x, LONG, 3), 1);
    }
  }

  @Says(promise = 0, text = "TIGHT: as LONG, and no THREAD is so in more than N ROWS one behind the other.")
  static void nRowsBehindKeepTightAndOneMoreDoesNot() {
    for (int behind = 1; behind <= 17; behind++) {
      LoomCards x = cards(0x55, 0xaa);
      for (int i = 0; i < 20; i++) x.pick(i < behind || (i - behind) % 2 == 1 ? 0 : 1);
      for (int n = 1; n <= 16; n++) due(behind + " rows, TIGHT " + n, kept(x, TIGHT, n), behind <= n ? 1 : 0);
      due(behind + " rows, LONG 1", kept(x, LONG, 1), 1);
    }
  }

  @Says(promise = 0, text = "TIGHT: as LONG")
  static void tightIsLongToo() {
    LoomCards x = woven(0x0f, 0xf0);
    due("TIGHT 3", kept(x, TIGHT, 3), 0);
    due("TIGHT 4", kept(x, TIGHT, 4), 1);
    due("one row, TIGHT 15", kept(woven(0), TIGHT, 15), 0);
    due("one row, TIGHT 16", kept(woven(0), TIGHT, 16), 1);
  }

  @Says(promise = 0, text = "STEP: as EVEN, and each ROW's CARD (but the first one's) has its HOLES one HOOK above those of the CARD ahead")
  static void eachRowsCardStepsOneHookAbove() {
    for (int hook = 0; hook < 8; hook++) {
      for (int next = 0; next < 8; next++) {
        LoomCards x = woven(1 << hook, 1 << next);
        due(hook + " then " + next, kept(x, STEP, 2), next == (hook + 1) % 8 ? 1 : 0);
      }
    }
    due("more holes", kept(woven(1, 3), STEP, 16), 0);
    due("fewer holes", kept(woven(3, 4), STEP, 16), 0);
    due("none and none", kept(woven(0, 0), STEP, 1), 1);
    due("all and all", kept(woven(255, 255), STEP, 16), 1);
    due("the last one does not", kept(woven(1, 2, 4, 4), STEP, 16), 0);
    due("the second one does not", kept(woven(1, 1, 2, 4), STEP, 16), 0);
  }

  @Says(promise = 0, text = "(but the first one's)")
  static void theFirstRowsCardNeedNotStep() {
    for (int hook = 0; hook < 8; hook++) due("one row", kept(woven(1 << hook), STEP, 2), 1);
  }

  @Says(promise = 0, text = "(that of HOOK 7 at 0)")
  static void theHoleOfHook7Comes0() {
    due("7 to 0", kept(woven(0x80, 0x01), STEP, 2), 1);
    due("7 to nothing", kept(woven(0x80, 0x00), STEP, 2), 0);
    due("7 and 0 to 0 and 1", kept(woven(0x81, 0x03), STEP, 4), 1);
    due("0 to 7", kept(woven(0x01, 0x80), STEP, 2), 0);
    due("8 steps round", kept(woven(1, 2, 4, 8, 16, 32, 64, 128, 1), STEP, 2), 1);
  }

  @Says(promise = 0, text = "STEP: as EVEN")
  static void stepIsEvenAndLawToo() {
    LoomCards x = woven(1, 2);
    due("STEP 1", kept(x, STEP, 1), 0);
    due("STEP 2", kept(x, STEP, 2), 1);
    x.tie(15, 0);
    due("three up in the first row", kept(x, STEP, 16), 0);
    x.tie(14, 1);
    due("three up in each", kept(x, STEP, 16), 0);
    x.tie(15, 7);
    x.tie(14, 6);
    due("as at first", kept(x, STEP, 2), 1);
  }

  @Says(promise = 0, text = "TURN: as STEP, or ROWS are the same from the end to the begin.")
  static void turnIsStepOrTheSameFromBothEnds() {
    due("one row, however many are up", kept(woven(255), TURN, 1), 1);
    due("two alike", kept(woven(7, 7), TURN, 1), 1);
    due("two that step", kept(woven(1, 2), TURN, 2), 1);
    due("two that step, too many up", kept(woven(1, 2), TURN, 1), 0);
    due("two that do neither", kept(woven(1, 4), TURN, 16), 0);
    due("three from both ends", kept(woven(1, 7, 1), TURN, 1), 1);
    due("four from both ends", kept(woven(1, 7, 7, 1), TURN, 1), 1);
    due("four but for the middle", kept(woven(1, 7, 3, 1), TURN, 16), 0);
    due("four but for the ends", kept(woven(1, 7, 7, 5), TURN, 16), 0);
    LoomCards x = cards(1, 2);
    for (int i = 0; i < 20; i++) x.pick(i < 10 ? i % 2 : (i + 1) % 2);
    due("20 from both ends", kept(x, TURN, 1), 1);
    x.drop();
    due("19", kept(x, TURN, 1), 0);
  }

  @Says(promise = 0, text = "(Without ROWS all are KEPT.)")
  static void withoutRowsAllLawsAreKept() {
    LoomCards x = cards(255, 1);
    for (int kind = 0; kind < 6; kind++) due("kind " + kind, kept(x, kind, 1), 1);
    x.pick(0);
    x.pick(1);
    for (int kind = 0; kind < 6; kind++) due("two rows, kind " + kind, kept(x, kind, 1), 0);
    x.drop();
    x.drop();
    for (int kind = 0; kind < 6; kind++) due("none again, kind " + kind, kept(x, kind, 1), 1);
  }

  @Says(promise = 0, text = "THE TAPE (bytes, at most 120)")
  static void theTapeHas120Bytes() {
    LoomCards x = new LoomCards();
    for (int n = 1; n <= 30; n++) due("feed", x.feed(-1, 4), 4 * n);
    due("one more", x.feed(0, 1), FULL);
    due("count(4)", x.count(4), 120);
  }

  // ---- ways, orders, repeat, far, tells

  @Says(promise = 0, text = "each EATEN place of a CARD that stands in THE ORDER becomes a HOLE or none (12 places at most), so that all LAWS IN FORCE are KEPT")
  static void waysKeepAllLawsInForce() {
    LoomCards x = new LoomCards();
    x.pick(x.card(0, 0x0f));
    due("no laws", x.ways(), 16);
    x.law(LAW, 4);
    due("two hooks at most", x.ways(), 1 + 4 + 6);
    x.law(LONG, 6);
    // Bare hooks: 4 to 7 and those below; at most six threads one beside the other.
    due("and not too long", x.ways(), 6);
    x.force(0, false);
    due("not too long alone", x.ways(), 6 + 4 + 1);
  }

  @Says(promise = 0, text = "by CARDS, then HOOKS; the first one the lowest bit; 1 for a HOLE")
  static void waysAreInOrderByTheirPlaces() {
    int[] cards = {2, 2, 5, 5};
    int[] hooks = {0, 7, 1, 6};
    for (int way = 0; way < 16; way++) {
      LoomCards x = cards(new int[10]);
      for (int p = 0; p < 4; p++) x.punch(cards[p], hooks[p], 2);
      x.pick(5);
      x.pick(2);
      x.pick(5);
      due("fill(" + way + ")", x.fill(way), 4);
      for (int p = 0; p < 4; p++) due("place " + p, x.at(cards[p], hooks[p]), way >> p & 1);
    }
  }

  @Says(promise = 0, text = "ORDERS of a set of CARDS (6 at most): all of them, each once, as THE ORDER, so that all LAWS IN FORCE are KEPT")
  static void ordersKeepAllLawsInForce() {
    LoomCards x = cards(1, 2, 4, 8, 16, 32, 64);
    x.law(STEP, 2);
    due("six", x.orders(0x3f), 1);
    due("one too many", x.orders(0x7f), SIZE);
    x.force(0, false);
    due("no law in force", x.orders(0x3f), 720);
    x.law(LAW, 1);
    due("none keeps it", x.orders(0x3f), 0);
  }

  @Says(promise = 0, text = "in order by their numbers, the first ones first")
  static void ordersAreInOrderByTheirNumbers() {
    LoomCards x = cards(new int[10]);
    int[][] want = {{1, 4, 9}, {1, 9, 4}, {4, 1, 9}, {4, 9, 1}, {9, 1, 4}, {9, 4, 1}};
    for (int n = 0; n < 6; n++) {
      due("lay", x.lay(1 << 1 | 1 << 4 | 1 << 9, n), 3);
      for (int i = 0; i < 3; i++) due("order " + n + ", woven(" + i + ")", x.woven(i), want[n][i]);
    }
  }

  @Says(promise = 0, text = "in order by their numbers, the first ones first")
  static void all720OrdersOfSixAreInOrder() {
    long before = -1;
    for (int n = 0; n < 720; n++) {
      LoomCards x = cards(new int[10]);
      due("lay", x.lay(0b1011011010, n), 6);
      long number = 0;
      int set = 0;
      for (int i = 0; i < 6; i++) {
        number = 10 * number + x.woven(i);
        set |= 1 << x.woven(i);
      }
      due("each once in order " + n, set, 0b1011011010);
      due("order " + n + " is behind the one ahead", number > before ? 1 : 0, 1);
      before = number;
    }
  }

  @Says(promise = 0, text = "REPEAT: the least p (1 or more) such that each ROW behind the first p is as the one p ahead")
  static void repeatIsTheLeast() {
    due("1", woven(5, 5, 5, 5).repeat(), 1);
    due("2, not 4", woven(5, 6, 5, 6).repeat(), 2);
    due("2, cut short", woven(5, 6, 5).repeat(), 2);
    due("3, cut short", woven(5, 6, 7, 5).repeat(), 3);
    due("the last one breaks it", woven(5, 6, 5, 6, 5, 5).repeat(), 5);
  }

  @Says(promise = 0, text = "(how many ROWS there are, if there is no less)")
  static void withoutALesserOneAllRowsRepeat() {
    due("one row", woven(5).repeat(), 1);
    due("two rows", woven(5, 6).repeat(), 2);
    due("ten rows", woven(0, 1, 2, 3, 4, 5, 6, 7, 8, 9).repeat(), 10);
  }

  @Says(promise = 0, text = "FAR of two ROWS, or of a ROW and a set of THREADS: in how many THREADS they differ.")
  static void farIsFrom0To16Threads() {
    for (int far = 0; far <= 16; far++) {
      LoomCards x = cards(0x5a);
      x.sheet(0, 16, 1);
      x.write(0, 0, 0x5a5a ^ (1 << far) - 1);
      due("crossings(0)", x.crossings(0), far);
    }
  }

  @Says(promise = 0, text = "A set of HOOKS TELLS the CARDS apart, if any two that differ at some HOOK (what they have there: 0, 1, 2) differ at one of the set.")
  static void hooksTellCardsApartBy0And1And2() {
    for (int hook = 0; hook < 8; hook++) {
      LoomCards x = new LoomCards();
      x.card(0, 0);
      x.card(0, 1 << hook);
      due("0 and 2", x.tells(), 1 << hook);
      x.punch(0, hook, 1);
      due("1 and 2", x.tells(), 1 << hook);
      x.punch(1, hook, 0);
      due("1 and 0", x.tells(), 1 << hook);
      x.punch(1, hook, 1);
      due("alike", x.tells(), 0);
    }
  }

  // ---- sheets

  @Says(promise = 0, text = "SHEETS 0 to 3 are rows of at most 40 numbers of 8, 16 or 64 bits, or MISSING (at first).")
  static void sheetsAreMissingAtFirst() {
    LoomCards x = new LoomCards();
    for (int s = 0; s < 4; s++) due("write(" + s + ", 0, 0)", x.write(s, 0, 0), MISSING);
    due("write(4, 0, 0)", x.write(4, 0, 0), BEYOND);
    for (int s = 0; s < 4; s++) due("sheet", x.sheet(s, 64, 40), 40);
    due("41", x.sheet(0, 64, 41), BEYOND);
  }

  @Says(promise = 0, text = "each number's lowest 16 bits a ROW, as a set of THREADS")
  static void theLowest16BitsOfANumberAreARow() {
    LoomCards x = woven(0x81);
    x.sheet(0, 64, 1);
    for (long above : new long[] {0, 0x10000, -0x10000, Long.MIN_VALUE, 0x7fffffffffff0000L}) {
      x.write(0, 0, 0x8181 | above);
      due("read(0)", x.read(0), 0);
      due("whose(0, 0)", x.whose(0, 0), 0);
      due("crossings(0)", x.crossings(0), 0);
      due("mark(0)", x.mark(0), NONE);
      due("order(0)", x.order(0), 1);
    }
    x.write(0, 0, 0x0181);
    due("bit 15 counts", x.mark(0), 15);
    x.sheet(1, 16, 1);
    x.write(1, 0, 0x8181);
    due("16 bits with a sign", x.read(1), 0);
  }

  @Says(promise = 0, text = "each number's lowest 16 bits a ROW, as a set of THREADS")
  static void aNumberOf8BitsBelow0HasTheUpperThreadsUp() {
    LoomCards x = woven(0x80);
    for (int t = 8; t < 16; t++) x.tie(t, 7);
    x.sheet(0, 8, 1);
    x.write(0, 0, 127);
    due("127", x.read(0), 1);
    x.write(0, 0, 128);
    due("-128", x.read(0), 0);
    x.write(0, 0, -127);
    due("-127", x.mark(0), 0);
  }
}
