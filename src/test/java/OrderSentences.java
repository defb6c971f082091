/** Promises 7 to 12: the threads, and the order. */
final class OrderSentences extends Sentences {

  // ---- 7: tie

  @Says(promise = 7, text = "A THREAD is TIED to a HOOK: to which it was.")
  static void tieAnswersTheHookBefore() {
    LoomCards x = new LoomCards();
    for (int t = 0; t < 16; t++) due("tie, first", x.tie(t, 7 - t % 8), t % 8);
    for (int t = 0; t < 16; t++) due("tie, again", x.tie(t, 0), 7 - t % 8);
    for (int t = 0; t < 16; t++) due("tied", x.tied(t), 0);
  }

  @Says(promise = 7, text = "BEYOND.")
  static void tieTakesThreads0To15() {
    takes("thread", 0, 15, v -> new LoomCards().tie(v, 0));
  }

  @Says(promise = 7, text = "BEYOND.")
  static void tieTakesHooks0To7() {
    takes("hook", 0, 7, v -> new LoomCards().tie(0, v));
  }

  // ---- 8: tied

  @Says(promise = 8, text = "To which HOOK a THREAD is TIED.")
  static void tiedTellsTheFirstAndTheLastHook() {
    LoomCards x = new LoomCards();
    x.tie(15, 0);
    x.tie(0, 7);
    due("tied(15)", x.tied(15), 0);
    due("tied(0)", x.tied(0), 7);
    due("tied(7)", x.tied(7), 7);
    due("tied(8)", x.tied(8), 0);
  }

  @Says(promise = 8, text = "BEYOND.")
  static void tiedTakesThreads0To15() {
    LoomCards x = new LoomCards();
    takes("thread", 0, 15, v -> x.tied(v));
  }

  // ---- 9: pick

  @Says(promise = 9, text = "A CARD comes behind THE ORDER: how many ROWS.")
  static void pickComesBehindTheOthers() {
    LoomCards x = cards(0, 0, 0);
    due("pick(2)", x.pick(2), 1);
    due("pick(0)", x.pick(0), 2);
    due("pick(2)", x.pick(2), 3);
    int[] want = {2, 0, 2};
    for (int i = 0; i < 3; i++) due("woven(" + i + ")", x.woven(i), want[i]);
  }

  @Says(promise = 9, text = "BEYOND.")
  static void pickTakesCardsThatAreThere() {
    due("no cards", new LoomCards().pick(0), BEYOND);
    takes("one card", 0, 0, v -> cards(0).pick(v));
    takes("ten cards", 0, 9, v -> tenCards().pick(v));
  }

  @Says(promise = 9, text = "FULL.")
  static void the20thPickIsTakenAndThe21stIsNot() {
    LoomCards x = cards(0, 1);
    for (int n = 1; n <= 20; n++) due("pick", x.pick(0), n);
    due("a 21st", x.pick(1), FULL);
    due("rows", x.count(2), 20);
    due("woven(19)", x.woven(19), 0);
    x.drop();
    due("room again", x.pick(1), 20);
    due("woven(19)", x.woven(19), 1);
    due("full again", x.pick(1), FULL);
  }

  @Says(promise = 9, text = "BEYOND. FULL.")
  static void aPickThatIsBeyondIsNotFull() {
    LoomCards x = cards(0);
    times(20, () -> x.pick(0));
    due("pick(1)", x.pick(1), BEYOND);
    due("pick(-1)", x.pick(-1), BEYOND);
    due("status(1)", x.status(1), 0);
  }

  // ---- 10: drop

  @Says(promise = 10, text = "The last one goes from THE ORDER: which CARD.")
  static void dropTakesTheLastOneAlone() {
    LoomCards x = woven(0, 1, 2);
    due("drop()", x.drop(), 2);
    due("rows", x.count(2), 2);
    due("woven(1)", x.woven(1), 1);
    due("woven(2)", x.woven(2), BEYOND);
    due("the card stays", x.count(0), 3);
  }

  @Says(promise = 10, text = "The last one goes from THE ORDER")
  static void dropEmptiesAFullOrder() {
    LoomCards x = tenCards();
    for (int i = 0; i < 20; i++) x.pick(i % 10);
    for (int i = 19; i >= 0; i--) due("drop()", x.drop(), i % 10);
    due("rows", x.count(2), 0);
  }

  @Says(promise = 10, text = "NONE.")
  static void thereIsNothingToDropFromAnEmptyOrder() {
    LoomCards x = cards(0);
    due("never picked", x.drop(), NONE);
    x.pick(0);
    x.drop();
    due("all dropped", x.drop(), NONE);
    due("rows", x.count(2), 0);
    due("pick(0)", x.pick(0), 1);
  }

  // ---- 11: woven

  @Says(promise = 11, text = "BEYOND.")
  static void wovenTakesRowsThatAreThere() {
    due("no rows", cards(0).woven(0), BEYOND);
    due("no rows", cards(0).woven(-1), BEYOND);
    for (int n = 1; n <= 20; n++) {
      LoomCards x = cards(0);
      times(n, () -> x.pick(0));
      takes("of " + n + " rows, i", 0, n - 1, v -> x.woven(v));
    }
  }

  @Says(promise = 11, text = "Which CARD weaves ROW i.")
  static void wovenTellsTheFirstAndTheLastRow() {
    LoomCards x = tenCards();
    for (int i = 0; i < 20; i++) x.pick((i + 3) % 10);
    due("woven(0)", x.woven(0), 3);
    due("woven(19)", x.woven(19), 2);
  }

  // ---- 12: row

  @Says(promise = 12, text = "THREADS that are UP in ROW i, as a set.")
  static void rowTellsFromNoneToAll16Threads() {
    LoomCards x = woven(0, 255, 0x80, 1);
    int[] want = {0, 0xffff, 0x8080, 0x0101};
    for (int i = 0; i < 4; i++) due("row(" + i + ")", x.row(i), want[i]);
  }

  @Says(promise = 12, text = "BEYOND.")
  static void rowTakesRowsThatAreThere() {
    due("no rows", cards(0).row(0), BEYOND);
    due("no rows", cards(0).row(-1), BEYOND);
    for (int n = 1; n <= 20; n++) {
      LoomCards x = cards(0);
      times(n, () -> x.pick(0));
      takes("of " + n + " rows, i", 0, n - 1, v -> x.row(v));
    }
  }
}
