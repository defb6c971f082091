/** Promises 24 to 29: the orders of cards, repeats, what is alike. */
final class OrdersSentences extends Sentences {

  /** Eight cards with one hole each: the law STEP leaves them one order alone, from 0 to 7. */
  private static LoomCards eightCards() {
    return cards(1, 2, 4, 8, 16, 32, 64, 128);
  }

  // ---- 24: orders

  @Says(promise = 24, text = "How many ORDERS of a set of CARDS there are.")
  static void thereIsOneOrderOfNoCards() {
    due("no cards", new LoomCards().orders(0), 1);
    LoomCards x = woven(255);
    x.law(LAW, 1);
    due("without rows all laws are kept", x.orders(0), 1);
    due("of a card that keeps no law", x.orders(1), 0);
  }

  @Says(promise = 24, text = "How many ORDERS of a set of CARDS there are.")
  static void thereAreAsManyOrdersAsCanBe() {
    int[] all = {1, 1, 2, 6, 24, 120, 720};
    LoomCards x = tenCards();
    for (int n = 0; n <= 6; n++) {
      due("of the first " + n, x.orders((1 << n) - 1), all[n]);
      due("of the last " + n, x.orders((1 << n) - 1 << 10 - n), all[n]);
    }
  }

  @Says(promise = 24, text = "How many ORDERS of a set of CARDS there are.")
  static void ordersLeaveTheOrderAsItWas() {
    LoomCards x = eightCards();
    x.pick(7);
    x.orders(0x3f);
    due("rows", x.count(2), 1);
    due("woven(0)", x.woven(0), 7);
  }

  @Says(promise = 24, text = "BEYOND: the set has one that isn't there.")
  static void ordersTakesCardsThatAreThere() {
    due("no cards", new LoomCards().orders(1), BEYOND);
    for (int n = 1; n <= 10; n++) {
      LoomCards x = cards(new int[n]);
      due("the last of " + n, x.orders(1 << n - 1), 1);
      due("one behind " + n, x.orders(1 << n), BEYOND);
      due("one that is there and one that isn't", x.orders(1 | 1 << n), BEYOND);
    }
    LoomCards ten = tenCards();
    for (int bit = 10; bit < 32; bit++) due("bit " + bit, ten.orders(1 << bit), BEYOND);
    due("all bits", ten.orders(-1), BEYOND);
    due("all but the last bit", ten.orders(MAX), BEYOND);
  }

  @Says(promise = 24, text = "SIZE: more than 6.")
  static void ordersTakesSixCardsAndNotSeven() {
    LoomCards x = tenCards();
    due("six", x.orders(0x3f), 720);
    due("six, the last ones", x.orders(0x3f0), 720);
    due("seven", x.orders(0x7f), SIZE);
    due("seven, the last ones", x.orders(0x3f8), SIZE);
    due("ten", x.orders(0x3ff), SIZE);
  }

  @Says(promise = 24, text = "BEYOND: the set has one that isn't there. SIZE: more than 6.")
  static void ordersAsksBeyondAheadOfSize() {
    due("eight, one isn't there", cards(new int[7]).orders(0xff), BEYOND);
    due("eleven", tenCards().orders(0x7ff), BEYOND);
  }

  // ---- 25: lay

  @Says(promise = 25, text = "The i-th of the ORDERS (from 0) becomes THE ORDER: how many ROWS.")
  static void layTakesTheFirstAndTheLastOrder() {
    LoomCards x = tenCards();
    x.pick(0);
    due("the first", x.lay(0x3f0, 0), 6);
    for (int i = 0; i < 6; i++) due("woven(" + i + ")", x.woven(i), 4 + i);
    due("the last", x.lay(0x3f0, 719), 6);
    for (int i = 0; i < 6; i++) due("woven(" + i + ")", x.woven(i), 9 - i);
    due("rows", x.count(2), 6);
  }

  @Says(promise = 25, text = "The i-th of the ORDERS (from 0) becomes THE ORDER: how many ROWS.")
  static void theOrderOfNoCardsIsEmpty() {
    LoomCards x = woven(1, 2, 3);
    due("lay(0, 0)", x.lay(0, 0), 0);
    due("rows", x.count(2), 0);
    due("lay(0, 1)", x.lay(0, 1), NONE);
  }

  @Says(promise = 25, text = "The i-th of the ORDERS (from 0) becomes THE ORDER: how many ROWS.")
  static void layTakesTheLastOfTheOrdersThatAreKept() {
    LoomCards x = cards(1, 1, 2);
    x.law(TURN, 1);
    // The ends must be alike: 0 2 1 and 1 2 0.
    due("orders(7)", x.orders(7), 2);
    due("lay(7, 2)", x.lay(7, 2), NONE);
    due("lay(7, 1)", x.lay(7, 1), 3);
    int[] want = {1, 2, 0};
    for (int i = 0; i < 3; i++) due("woven(" + i + ")", x.woven(i), want[i]);
  }

  @Says(promise = 25, text = "BEYOND: also i below 0.")
  static void layTakesIFrom0On() {
    LoomCards x = tenCards();
    due("-1", x.lay(1, -1), BEYOND);
    due("the least", x.lay(1, MIN), BEYOND);
    due("-1 of no cards", x.lay(0, -1), BEYOND);
    due("0", x.lay(1, 0), 1);
  }

  @Says(promise = 25, text = "BEYOND: also i below 0.")
  static void layTakesCardsThatAreThere() {
    due("no cards", new LoomCards().lay(1, 0), BEYOND);
    for (int n = 1; n <= 10; n++) {
      LoomCards x = cards(new int[n]);
      due("the last of " + n, x.lay(1 << n - 1, 0), 1);
      due("woven(0)", x.woven(0), n - 1);
      due("one behind " + n, x.lay(1 << n, 0), BEYOND);
    }
    LoomCards ten = tenCards();
    for (int bit = 10; bit < 32; bit++) due("bit " + bit, ten.lay(1 << bit, 0), BEYOND);
    due("all bits", ten.lay(-1, 0), BEYOND);
  }

  @Says(promise = 25, text = "SIZE.")
  static void layTakesSixCardsAndNotSeven() {
    LoomCards x = tenCards();
    due("six", x.lay(0x3f, 0), 6);
    due("seven", x.lay(0x7f, 0), SIZE);
    due("ten", x.lay(0x3ff, 0), SIZE);
    due("rows", x.count(2), 6);
  }

  @Says(promise = 25, text = "NONE: there are not so many.")
  static void layTakesIUpToTheLastOrder() {
    LoomCards x = tenCards();
    int[] all = {1, 1, 2, 6, 24, 120, 720};
    for (int n = 0; n <= 6; n++) {
      int set = (1 << n) - 1;
      due("the last of " + n, x.lay(set, all[n] - 1), n);
      due("one more", x.lay(set, all[n]), NONE);
      due("many more", x.lay(set, MAX), NONE);
      due("rows", x.count(2), n);
    }
  }

  @Says(promise = 25, text = "NONE: there are not so many.")
  static void layHasNothingWithoutOrders() {
    LoomCards x = eightCards();
    x.pick(3);
    x.law(STEP, 2);
    due("with a gap", x.lay(5, 0), NONE);
    due("rows", x.count(2), 1);
    due("woven(0)", x.woven(0), 3);
  }

  @Says(promise = 25, text = "BEYOND: also i below 0. SIZE. NONE: there are not so many.")
  static void layAsksBeyondThenSizeThenNone() {
    LoomCards x = eightCards();
    x.law(STEP, 2);
    due("i and SIZE", x.lay(0x7f, -1), BEYOND);
    due("card and SIZE", x.lay(0x1ff, 0), BEYOND);
    due("i and NONE", x.lay(5, -1), BEYOND);
    due("card and NONE", x.lay(0x105, 0), BEYOND);
    due("SIZE and NONE", x.lay(0x7f, MAX), SIZE);
    due("SIZE and NONE", x.lay(0xfd, 0), SIZE);
  }

  // ---- 26: repeat

  @Says(promise = 26, text = "REPEAT.")
  static void repeatIsFrom1ToAllRows() {
    for (int p = 1; p <= 10; p++) {
      LoomCards x = cards(0, 1, 2, 3, 4, 5, 6, 7, 8, 9);
      for (int i = 0; i < 20; i++) {
        x.pick(i % p);
        due("every " + p + ", " + (i + 1) + " rows", x.repeat(), Math.min(p, i + 1));
      }
    }
    LoomCards y = cards(0, 1);
    times(19, () -> y.pick(0));
    due("19 alike", y.repeat(), 1);
    y.pick(1);
    due("but the last", y.repeat(), 20);
  }

  @Says(promise = 26, text = "NONE: there are no ROWS.")
  static void nothingRepeatsWithoutRows() {
    LoomCards x = cards(1);
    due("no rows", x.repeat(), NONE);
    x.pick(0);
    due("one row", x.repeat(), 1);
    x.drop();
    due("no rows again", x.repeat(), NONE);
  }

  // ---- 27: unlike

  @Says(promise = 27, text = "How many unlike ROWS THE CLOTH has.")
  static void unlikeIsFrom0To10() {
    LoomCards x = cards(0, 1, 2, 3, 4, 5, 6, 7, 8, 9);
    for (int n = 0; n <= 10; n++) {
      due(n + " rows", x.unlike(), n);
      if (n < 10) x.pick(n);
    }
    for (int n = 0; n < 10; n++) {
      x.pick(9 - n);
      due("again", x.unlike(), 10);
    }
  }

  @Says(promise = 27, text = "How many unlike ROWS THE CLOTH has.")
  static void rowsOfUnlikeCardsMayBeAlike() {
    LoomCards x = new LoomCards();
    x.pick(x.card(1, 0));
    x.pick(x.card(1, 2));
    due("eaten counts as none", x.unlike(), 1);
  }

  // ---- 28: tells

  @Says(promise = 28, text = "The least set (fewest HOOKS first, then the least) that TELLS the CARDS apart.")
  static void noHooksAreNeededWhereNothingIsToBeTold() {
    due("no cards", new LoomCards().tells(), 0);
    due("one card", cards(255).tells(), 0);
    due("ten alike", cards(new int[10]).tells(), 0);
  }

  @Says(promise = 28, text = "The least set (fewest HOOKS first, then the least) that TELLS the CARDS apart.")
  static void allHooksMayBeNeeded() {
    LoomCards x = cards(0);
    for (int n = 1; n <= 8; n++) {
      x.card(1 << 8 - n, 0);
      due(n + " hooks", x.tells(), 256 - (1 << 8 - n));
    }
  }

  @Says(promise = 28, text = "fewest HOOKS first, then the least")
  static void fewestHooksGoAheadOfTheLeastSet() {
    LoomCards x = cards(0x81, 0x82, 0x00);
    // Hooks 0 and 1 tell them, and so do 0 and 7; no single hook does.
    due("two", x.tells(), 0x03);
    LoomCards y = new LoomCards();
    y.card(0, 0);
    y.card(0x81, 0);
    y.card(0x02, 0x80);
    due("hook 7 alone", y.tells(), 0x80);
  }

  @Says(promise = 28, text = "that TELLS the CARDS apart")
  static void cardsOutsideTheOrderAreToldApartToo() {
    LoomCards x = cards(0, 0x40);
    x.pick(0);
    due("tells()", x.tells(), 0x40);
  }

  // ---- 29: thread

  @Says(promise = 29, text = "In how many ROWS a THREAD is UP (what 0)")
  static void aThreadIsUpIn0To20Rows() {
    LoomCards x = cards(0x80);
    for (int n = 0; n <= 20; n++) {
      due("thread 15", x.thread(15, 0), n);
      due("thread 0", x.thread(0, 0), 0);
      x.pick(0);
    }
  }

  @Says(promise = 29, text = "how often it changes from ROW to ROW (1)")
  static void aThreadChanges0To19Times() {
    LoomCards x = cards(0x80, 0x00);
    due("no rows", x.thread(15, 1), 0);
    for (int n = 0; n < 20; n++) {
      x.pick(n % 2);
      due("thread 15, " + (n + 1) + " rows", x.thread(15, 1), n);
      due("thread 0", x.thread(0, 1), 0);
    }
  }

  @Says(promise = 29, text = "how often it changes from ROW to ROW (1)")
  static void aThreadThatStaysUpDoesNotChange() {
    LoomCards x = cards(1);
    times(20, () -> x.pick(0));
    due("up in all", x.thread(0, 1), 0);
    due("up in none", x.thread(1, 1), 0);
    due("up, up, not, not", woven(1, 1, 0, 0).thread(8, 1), 1);
  }

  @Says(promise = 29, text = "BEYOND.")
  static void threadTakesThreads0To15() {
    LoomCards x = woven(1);
    takes("thread, what 0", 0, 15, v -> x.thread(v, 0));
    takes("thread, what 1", 0, 15, v -> x.thread(v, 1));
    takes("without rows, thread", 0, 15, v -> new LoomCards().thread(v, 0));
  }

  @Says(promise = 29, text = "BEYOND.")
  static void threadTakesWhat0And1() {
    LoomCards x = woven(1);
    takes("what", 0, 1, v -> x.thread(0, v));
    takes("without rows, what", 0, 1, v -> new LoomCards().thread(0, v));
  }
}
