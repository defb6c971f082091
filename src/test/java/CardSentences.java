/** Promises 1 to 6: a new object, and the cards. */
final class CardSentences extends Sentences {

  // ---- 1: a new object

  @Says(promise = 1, text = "No CARDS, LAWS")
  static void aNewObjectHasNoCards() {
    LoomCards x = new LoomCards();
    due("count(0)", x.count(0), 0);
    due("count(3)", x.count(3), 0);
    due("of(0, 0)", x.of(0, 0), BEYOND);
    due("the first card's number", x.card(0, 0), 0);
  }

  @Says(promise = 1, text = "No CARDS, LAWS")
  static void aNewObjectHasNoLaws() {
    LoomCards x = new LoomCards();
    due("count(1)", x.count(1), 0);
    due("count(5)", x.count(5), 0);
    due("lawOf(0, 0)", x.lawOf(0, 0), BEYOND);
    due("the first law's number", x.law(0, 1), 0);
  }

  @Says(promise = 1, text = "THE ORDER and THE TAPE are empty")
  static void theOrderOfANewObjectIsEmpty() {
    LoomCards x = new LoomCards();
    due("count(2)", x.count(2), 0);
    due("woven(0)", x.woven(0), BEYOND);
    due("drop()", x.drop(), NONE);
  }

  @Says(promise = 1, text = "THE ORDER and THE TAPE are empty")
  static void theTapeOfANewObjectIsEmpty() {
    LoomCards x = new LoomCards();
    due("count(4)", x.count(4), 0);
    due("wipe()", x.wipe(), 0);
    due("loom()", x.loom(), -1);
  }

  @Says(promise = 1, text = "no image is kept")
  static void noImageIsKeptByANewObject() {
    due("undo()", new LoomCards().undo(), NONE);
    due("tear()", new LoomCards().tear(), 0);
  }

  // ---- 2: card

  @Says(promise = 2, text = "A new CARD with HOLES at a set of HOOKS, and EATEN at another one: its number.")
  static void aCardHasWhatItWasMadeWith() {
    int[][] sets = {{0, 0}, {255, 0}, {0, 255}, {0xaa, 0x55}, {1, 0x80}, {0x80, 1}};
    LoomCards x = new LoomCards();
    for (int c = 0; c < sets.length; c++) {
      due("card", x.card(sets[c][0], sets[c][1]), c);
      due("holes", x.of(c, 0), sets[c][0]);
      due("eaten", x.of(c, 1), sets[c][1]);
    }
  }

  @Says(promise = 2, text = "BEYOND: sets (0 to 255)")
  static void holesAreASetFrom0To255() {
    takes("holes", 0, 255, v -> new LoomCards().card(v, 0));
  }

  @Says(promise = 2, text = "BEYOND: sets (0 to 255)")
  static void eatenIsASetFrom0To255() {
    takes("eaten", 0, 255, v -> new LoomCards().card(0, v));
  }

  @Says(promise = 2, text = "or they have a HOOK in common")
  static void holesAndEatenHaveNoHookInCommon() {
    LoomCards x = new LoomCards();
    for (int hook = 0; hook < 8; hook++) {
      due("hook " + hook + " alone", x.card(1 << hook, 1 << hook), BEYOND);
      due("hook " + hook + " among others", x.card(255, 1 << hook), BEYOND);
      due("hook " + hook + " among others", x.card(1 << hook, 255), BEYOND);
      due("all others", new LoomCards().card(1 << hook, 255 ^ 1 << hook), 0);
    }
    due("no card came", x.count(0), 0);
  }

  @Says(promise = 2, text = "FULL.")
  static void theTenthCardIsTakenAndTheEleventhIsNot() {
    LoomCards x = new LoomCards();
    for (int c = 0; c < 10; c++) due("card", x.card(c, 0), c);
    due("an 11th", x.card(0, 0), FULL);
    due("an 11th, full sets", x.card(0, 255), FULL);
    due("cards", x.count(0), 10);
    for (int c = 0; c < 10; c++) due("holes", x.of(c, 0), c);
  }

  @Says(promise = 2, text = "BEYOND: sets (0 to 255), or they have a HOOK in common. FULL.")
  static void aCardThatIsBeyondIsNotFull() {
    LoomCards x = tenCards();
    due("holes", x.card(256, 0), BEYOND);
    due("holes", x.card(-1, 0), BEYOND);
    due("eaten", x.card(0, 256), BEYOND);
    due("eaten", x.card(0, -1), BEYOND);
    due("in common", x.card(4, 4), BEYOND);
    due("status(1)", x.status(1), 0);
  }

  // ---- 3: of

  @Says(promise = 3, text = "what 0 its HOLES, 1 where it is EATEN (sets)")
  static void ofTellsHolesAndEatenFromNoneToAll() {
    LoomCards x = new LoomCards();
    x.card(0, 0);
    x.card(255, 0);
    x.card(0, 255);
    int[][] want = {{0, 0}, {255, 0}, {0, 255}};
    for (int c = 0; c < 3; c++) {
      due("of(" + c + ", 0)", x.of(c, 0), want[c][0]);
      due("of(" + c + ", 1)", x.of(c, 1), want[c][1]);
    }
  }

  @Says(promise = 3, text = "2 how many HOLES")
  static void ofTellsFrom0To8Holes() {
    for (int n = 0; n <= 8; n++) {
      LoomCards x = new LoomCards();
      x.card((1 << n) - 1, 255 ^ (1 << n) - 1);
      due("of(0, 2)", x.of(0, 2), n);
    }
  }

  @Says(promise = 3, text = "3 how often it stands in THE ORDER")
  static void ofTellsFrom0To20TimesInTheOrder() {
    LoomCards x = cards(1, 1);
    for (int n = 0; n <= 20; n++) {
      due("of(1, 3)", x.of(1, 3), n);
      x.pick(1);
    }
    due("of(1, 3), the order is full", x.of(1, 3), 20);
    due("of(0, 3)", x.of(0, 3), 0);
    x.drop();
    due("of(1, 3) behind drop()", x.of(1, 3), 19);
  }

  @Says(promise = 3, text = "4 the THREADS that are UP by it, as a set")
  static void ofTellsThreadsFromNoneToAll16() {
    LoomCards x = new LoomCards();
    x.card(0, 0);
    x.card(255, 0);
    x.card(0x80, 0x7f);
    due("none", x.of(0, 4), 0);
    due("all", x.of(1, 4), 0xffff);
    due("eaten counts as none", x.of(2, 4), 0x8080);
    for (int t = 0; t < 16; t++) x.tie(t, 7);
    due("all at hook 7", x.of(2, 4), 0xffff);
  }

  @Says(promise = 3, text = "BEYOND.")
  static void ofTakesCardsThatAreThere() {
    due("no cards", new LoomCards().of(0, 0), BEYOND);
    for (int n = 1; n <= 10; n++) {
      LoomCards x = cards(new int[n]);
      for (int what = 0; what <= 4; what++) {
        int w = what;
        takes("of " + n + " cards, what " + what + ", card", 0, n - 1, v -> x.of(v, w));
      }
    }
  }

  @Says(promise = 3, text = "BEYOND.")
  static void ofTakesWhatFrom0To4() {
    LoomCards x = cards(1);
    takes("what", 0, 4, v -> x.of(0, v));
  }

  // ---- 4: punch

  @Says(promise = 4, text = "At a HOOK a CARD has v (0, 1, 2): what it had.")
  static void punchPutsEachValueOverEach() {
    for (int hook = 0; hook < 8; hook++) {
      for (int had = 0; had <= 2; had++) {
        for (int v = 0; v <= 2; v++) {
          LoomCards x = cards(0x5a, 0);
          x.card(had == 1 ? 1 << hook : 0, had == 2 ? 1 << hook : 0);
          due("punch(2, " + hook + ", " + v + ")", x.punch(2, hook, v), had);
          due("at", x.at(2, hook), v);
          due("holes", x.of(2, 0), v == 1 ? 1 << hook : 0);
          due("eaten", x.of(2, 1), v == 2 ? 1 << hook : 0);
          due("another card", x.of(0, 0), 0x5a);
        }
      }
    }
  }

  @Says(promise = 4, text = "v (0, 1, 2)")
  static void punchTakesVFrom0To2() {
    takes("v", 0, 2, v -> cards(0).punch(0, 0, v));
  }

  @Says(promise = 4, text = "BEYOND.")
  static void punchTakesHooks0To7() {
    takes("hook", 0, 7, v -> cards(0).punch(0, v, 1));
  }

  @Says(promise = 4, text = "BEYOND.")
  static void punchTakesCardsThatAreThere() {
    due("no cards", new LoomCards().punch(0, 0, 0), BEYOND);
    takes("one card", 0, 0, v -> cards(0).punch(v, 0, 1));
    takes("ten cards", 0, 9, v -> tenCards().punch(v, 0, 1));
  }

  // ---- 5: at

  @Says(promise = 5, text = "What a CARD has at a HOOK.")
  static void atTells012AtTheFirstAndTheLastHook() {
    for (int hook : new int[] {0, 7}) {
      LoomCards x = new LoomCards();
      x.card(0, 255 ^ 1 << hook);
      x.card(1 << hook, 0);
      x.card(255 ^ 1 << hook, 1 << hook);
      for (int c = 0; c < 3; c++) due("at(" + c + ", " + hook + ")", x.at(c, hook), c);
    }
  }

  @Says(promise = 5, text = "BEYOND.")
  static void atTakesHooks0To7() {
    LoomCards x = cards(0);
    takes("hook", 0, 7, v -> x.at(0, v));
  }

  @Says(promise = 5, text = "BEYOND.")
  static void atTakesCardsThatAreThere() {
    due("no cards", new LoomCards().at(0, 0), BEYOND);
    LoomCards one = cards(0);
    LoomCards ten = tenCards();
    takes("one card", 0, 0, v -> one.at(v, 0));
    takes("ten cards", 0, 9, v -> ten.at(v, 0));
  }

  // ---- 6: twin

  @Says(promise = 6, text = "The least other CARD that has the same at all HOOKS.")
  static void twinIsTheLeastAndNotTheCardItself() {
    LoomCards x = cards(new int[10]);
    due("twin(0)", x.twin(0), 1);
    for (int c = 1; c < 10; c++) due("twin(" + c + ")", x.twin(c), 0);
  }

  @Says(promise = 6, text = "that has the same at all HOOKS")
  static void aCardThatDiffersAtOneHookIsNoTwin() {
    for (int hook = 0; hook < 8; hook++) {
      LoomCards x = new LoomCards();
      x.card(0x0f, 0x30);
      x.card(0x0f, 0x30);
      for (int v = 0; v <= 2; v++) {
        int had = x.punch(1, hook, v);
        due("hook " + hook + ", " + v, x.twin(0), x.at(0, hook) == v ? 1 : NONE);
        x.punch(1, hook, had);
      }
    }
  }

  @Says(promise = 6, text = "BEYOND.")
  static void twinTakesCardsThatAreThere() {
    due("no cards", new LoomCards().twin(0), BEYOND);
    LoomCards x = cards(new int[10]);
    takes("ten twins", 0, 9, v -> x.twin(v));
    LoomCards y = cards(0, 0);
    takes("two twins", 0, 1, v -> y.twin(v));
  }

  @Says(promise = 6, text = "NONE.")
  static void aCardAloneHasNoTwin() {
    LoomCards x = cards(7);
    due("twin(0)", x.twin(0), NONE);
    x.card(6, 1);
    due("twin(0)", x.twin(0), NONE);
    due("twin(1)", x.twin(1), NONE);
    due("status(3)", x.status(3), 3);
  }

  @Says(promise = 6, text = "BEYOND. NONE.")
  static void aCardThatIsNotThereIsBeyondNotWithoutTwin() {
    LoomCards x = cards(7);
    due("twin(1)", x.twin(1), BEYOND);
    due("status(3)", x.status(3), 0);
  }
}
