/** Promises 13 to 19: the laws. */
final class LawSentences extends Sentences {

  // ---- 13: law

  @Says(promise = 13, text = "A new LAW: its number.")
  static void lawsAreNumberedAsTheyCome() {
    LoomCards x = new LoomCards();
    for (int l = 0; l < 6; l++) {
      due("law", x.law(5 - l, l + 1), l);
      due("kind", x.lawOf(l, 0), 5 - l);
      due("n", x.lawOf(l, 1), l + 1);
    }
  }

  @Says(promise = 13, text = "BEYOND: kind, n.")
  static void lawTakesKinds0To5() {
    takes("kind", 0, 5, v -> new LoomCards().law(v, 1));
  }

  @Says(promise = 13, text = "BEYOND: kind, n.")
  static void lawTakesNFrom1To16() {
    for (int kind = 0; kind < 6; kind++) {
      int k = kind;
      takes("kind " + kind + ", n", 1, 16, v -> new LoomCards().law(k, v));
    }
  }

  @Says(promise = 13, text = "FULL.")
  static void theSixthLawIsTakenAndTheSeventhIsNot() {
    LoomCards x = new LoomCards();
    for (int l = 0; l < 6; l++) due("law", x.law(0, 1), l);
    due("a 7th", x.law(0, 1), FULL);
    due("a 7th", x.law(5, 16), FULL);
    due("laws", x.count(1), 6);
    due("in force", x.count(5), 6);
  }

  @Says(promise = 13, text = "FULL.")
  static void aLawThatIsNotInForceTakesRoomToo() {
    LoomCards x = new LoomCards();
    for (int l = 0; l < 6; l++) x.force(x.law(0, 1), false);
    due("a 7th", x.law(0, 1), FULL);
  }

  @Says(promise = 13, text = "BEYOND: kind, n. FULL.")
  static void aLawThatIsBeyondIsNotFull() {
    LoomCards x = new LoomCards();
    times(6, () -> x.law(0, 1));
    due("kind 6", x.law(6, 1), BEYOND);
    due("kind -1", x.law(-1, 1), BEYOND);
    due("n 0", x.law(0, 0), BEYOND);
    due("n 17", x.law(0, 17), BEYOND);
    due("status(1)", x.status(1), 0);
  }

  // ---- 14: lawOf

  @Says(promise = 14, text = "BEYOND.")
  static void lawOfTakesWhatFrom0To3() {
    LoomCards x = new LoomCards();
    x.law(0, 1);
    takes("what", 0, 3, v -> x.lawOf(0, v));
  }

  @Says(promise = 14, text = "BEYOND.")
  static void lawOfTakesLawsThatAreThere() {
    due("no laws", new LoomCards().lawOf(0, 0), BEYOND);
    for (int n = 1; n <= 6; n++) {
      LoomCards x = new LoomCards();
      times(n, () -> x.law(0, 1));
      for (int what = 0; what <= 3; what++) {
        int w = what;
        takes("of " + n + " laws, what " + what + ", law", 0, n - 1, v -> x.lawOf(v, w));
      }
    }
  }

  @Says(promise = 14, text = "Of a LAW: what 0 KIND, 1 N")
  static void lawOfTellsTheFirstAndTheLastKindAndN() {
    LoomCards x = new LoomCards();
    x.law(LAW, 16);
    x.law(TURN, 1);
    due("lawOf(0, 0)", x.lawOf(0, 0), LAW);
    due("lawOf(0, 1)", x.lawOf(0, 1), 16);
    due("lawOf(1, 0)", x.lawOf(1, 0), TURN);
    due("lawOf(1, 1)", x.lawOf(1, 1), 1);
  }

  @Says(promise = 14, text = "2 1 if it is IN FORCE, else 0")
  static void lawOfTellsWhetherItIsInForce() {
    LoomCards x = new LoomCards();
    x.law(3, 2);
    due("at first", x.lawOf(0, 2), 1);
    x.force(0, false);
    due("not", x.lawOf(0, 2), 0);
    x.force(0, true);
    due("again", x.lawOf(0, 2), 1);
  }

  @Says(promise = 14, text = "3 1 if it is KEPT, else 0")
  static void aLawThatIsNotInForceIsKeptOrNotAsAnother() {
    LoomCards x = woven(3);
    x.law(LAW, 3);
    x.law(LAW, 4);
    x.force(0, false);
    x.force(1, false);
    due("not kept", x.lawOf(0, 3), 0);
    due("kept", x.lawOf(1, 3), 1);
  }

  // ---- 15: set

  @Says(promise = 15, text = "N of a LAW becomes v: what it was.")
  static void setAnswersTheNBefore() {
    LoomCards x = new LoomCards();
    x.law(0, 1);
    x.law(0, 5);
    due("set(0, 16)", x.set(0, 16), 1);
    due("set(0, 1)", x.set(0, 1), 16);
    due("n", x.lawOf(0, 1), 1);
    due("of the other", x.lawOf(1, 1), 5);
  }

  @Says(promise = 15, text = "BEYOND.")
  static void setTakesVFrom1To16() {
    LoomCards x = new LoomCards();
    x.law(0, 8);
    takes("v", 1, 16, v -> x.set(0, v));
    due("the last that was taken", x.lawOf(0, 1), 16);
  }

  @Says(promise = 15, text = "BEYOND.")
  static void setTakesLawsThatAreThere() {
    due("no laws", new LoomCards().set(0, 1), BEYOND);
    LoomCards x = new LoomCards();
    x.law(0, 1);
    takes("one law", 0, 0, v -> x.set(v, 2));
    times(5, () -> x.law(0, 1));
    takes("six laws", 0, 5, v -> x.set(v, 3));
  }

  // ---- 16: force

  @Says(promise = 16, text = "A LAW comes IN FORCE, or not: 1 if that is new, else 0.")
  static void forceTellsWhetherThatIsNew() {
    LoomCards x = new LoomCards();
    x.law(0, 1);
    x.law(0, 1);
    due("it is in force at first", x.force(0, true), 0);
    due("not", x.force(0, false), 1);
    due("not again", x.force(0, false), 0);
    due("in force", x.count(5), 1);
    due("the other one still is", x.lawOf(1, 2), 1);
    due("it comes", x.force(0, true), 1);
    due("it comes again", x.force(0, true), 0);
    due("in force", x.count(5), 2);
  }

  @Says(promise = 16, text = "BEYOND.")
  static void forceTakesLawsThatAreThere() {
    due("no laws", new LoomCards().force(0, true), BEYOND);
    due("no laws", new LoomCards().force(0, false), BEYOND);
    LoomCards x = new LoomCards();
    x.law(0, 1);
    takes("one law", 0, 0, v -> x.force(v, false));
    times(5, () -> x.law(0, 1));
    takes("six laws", 0, 5, v -> x.force(v, true));
  }

  // ---- 17: as

  @Says(promise = 17, text = "A LAW as one of a kind: N.")
  static void asAnswersNFrom1To16() {
    LoomCards x = new LoomCards();
    x.law(TURN, 1);
    for (int n = 1; n <= 16; n++) {
      x.set(0, n);
      for (int kind : new int[] {LAW, EVEN, STEP, TURN}) due("as(0, " + kind + ")", x.as(0, kind), n);
    }
    x.force(0, false);
    due("not in force", x.as(0, LAW), 16);
  }

  @Says(promise = 17, text = "KIND: it isn't of that kind, nor of one under it.")
  static void asRefusesEachKindThatItIsNotUnder() {
    String[] kindsOver = {"0", "01", "02", "013", "024", "0135"};
    LoomCards x = new LoomCards();
    for (int kind = 0; kind < 6; kind++) x.law(kind, kind + 3);
    for (int law = 0; law < 6; law++) {
      for (int kind = 0; kind < 6; kind++) {
        boolean is = kindsOver[law].indexOf('0' + kind) >= 0;
        due("as(" + law + ", " + kind + ")", x.as(law, kind), is ? law + 3 : KIND);
      }
    }
  }

  @Says(promise = 17, text = "BEYOND: no such LAW, kind.")
  static void asTakesLawsThatAreThere() {
    due("no laws", new LoomCards().as(0, 0), BEYOND);
    LoomCards x = new LoomCards();
    x.law(0, 1);
    takes("one law", 0, 0, v -> x.as(v, 0));
    times(5, () -> x.law(0, 1));
    takes("six laws", 0, 5, v -> x.as(v, 0));
  }

  @Says(promise = 17, text = "BEYOND: no such LAW, kind. KIND: it isn't of that kind")
  static void aKindThatIsNoneIsBeyondNotKind() {
    LoomCards x = new LoomCards();
    x.law(TURN, 2);
    for (int kind : new int[] {-1, 6, MIN, MAX}) due("as(0, " + kind + ")", x.as(0, kind), BEYOND);
    due("no such law, of a kind that none has", x.as(1, TIGHT), BEYOND);
    due("status(2)", x.status(2), 0);
  }

  // ---- 18: broken

  @Says(promise = 18, text = "The first LAW IN FORCE that isn't KEPT.")
  static void brokenTellsTheFirstAndTheLastLaw() {
    LoomCards x = woven(3);
    for (int l = 0; l < 6; l++) x.law(LAW, 1);
    for (int l = 0; l < 6; l++) {
      due("broken()", x.broken(), l);
      if (l % 2 == 0) x.force(l, false);
      else x.set(l, 4);
    }
    due("broken()", x.broken(), NONE);
  }

  @Says(promise = 18, text = "The first LAW IN FORCE that isn't KEPT.")
  static void aLawIsBrokenByTheLastOf20RowsAndNotByOneThatWasDropped() {
    int[] bad = {0x57, 0x80, 0x0f, 0x55, 0x55, 0x33};
    int[] n = {8, 8, 1, 8, 1, 8};
    for (int kind = 0; kind < 6; kind++) {
      LoomCards x = cards(0x55, 0xaa, bad[kind]);
      // Hook 7 has one thread now, and the rows of the first two cards are as they were.
      x.tie(15, 5);
      for (int i = 0; i < 19; i++) x.pick(i % 2);
      x.law(kind, n[kind]);
      due("kind " + kind + ", 19 rows", x.broken(), NONE);
      x.pick(2);
      due("kind " + kind + ", 20 rows", x.broken(), 0);
      x.drop();
      due("kind " + kind + ", dropped", x.broken(), NONE);
    }
  }

  @Says(promise = 18, text = "NONE: all are.")
  static void noLawIsBrokenWithoutLaws() {
    due("broken()", woven(255).broken(), NONE);
    due("broken()", new LoomCards().broken(), NONE);
  }

  @Says(promise = 18, text = "NONE: all are.")
  static void noLawIsBrokenWithoutRows() {
    LoomCards x = cards(1, 7);
    for (int kind = 0; kind < 6; kind++) x.law(kind, 1);
    due("broken()", x.broken(), NONE);
  }

  // ---- 19: floats

  @Says(promise = 19, text = "How many THREADS stand one beside the other, all UP or all not, at most in a ROW (what 0)")
  static void floatsAcrossAreFrom1To16() {
    for (int n = 1; n <= 16; n++) {
      LoomCards x = cards(1, 0xfe);
      // Threads 0 to n - 1 are tied alike, the others by turns.
      for (int t = 0; t < 16; t++) x.tie(t, t < n || (t - n) % 2 == 1 ? 0 : 1);
      for (int card = 0; card < 2; card++) {
        x.pick(card);
        due(n + " beside, card " + card, x.floats(0), n);
        x.drop();
      }
      // The same from the other side: it is the last ones that stand beside each other.
      for (int t = 0; t < 16; t++) x.tie(15 - t, t < n || (t - n) % 2 == 1 ? 0 : 1);
      x.pick(0);
      due(n + " beside, at the end", x.floats(0), n);
    }
  }

  @Says(promise = 19, text = "at most in a ROW (what 0)")
  static void theWidestRowMayBeTheFirstOrTheLast() {
    due("the first", woven(0x0f, 0x33, 0x55).floats(0), 4);
    due("the last", woven(0x55, 0x33, 0x0f).floats(0), 4);
  }

  @Says(promise = 19, text = "How many THREADS stand one beside the other")
  static void thread15IsNotBesideThread0() {
    LoomCards x = woven(1);
    // Threads 0 to 3 are up, 4 to 10 by turns, 11 to 15 are up.
    for (int t = 0; t < 16; t++) x.tie(t, t < 4 || t > 10 || t % 2 == 1 ? 0 : 1);
    due("floats(0)", x.floats(0), 5);
  }

  @Says(promise = 19, text = "in how many ROWS one behind the other a THREAD is so at most (1)")
  static void floatsDownAreFrom1To20() {
    for (int n = 1; n <= 20; n++) {
      LoomCards x = cards(0x0f, 0xf0);
      for (int i = 0; i < 20; i++) x.pick(i < n || (i - n) % 2 == 1 ? 0 : 1);
      due(n + " at the begin", x.floats(1), n);
      LoomCards y = cards(0x0f, 0xf0);
      for (int i = 0; i < 20; i++) y.pick(19 - i < n || (19 - i - n) % 2 == 1 ? 1 : 0);
      due(n + " at the end", y.floats(1), n);
    }
  }

  @Says(promise = 19, text = "a THREAD is so at most (1)")
  static void oneThreadAloneIsEnough() {
    for (int alone = 0; alone < 16; alone++) {
      LoomCards x = woven(3, 1, 3, 0);
      LoomCards y = woven(0, 2, 0, 3);
      for (int t = 0; t < 16; t++) x.tie(t, t == alone ? 0 : 1);
      for (int t = 0; t < 16; t++) y.tie(t, t == alone ? 0 : 1);
      due("thread " + alone + " is up in three", x.floats(1), 3);
      due("thread " + alone + " is not in three", y.floats(1), 3);
      x.tie(alone, 1);
      due("none", x.floats(1), 1);
    }
  }

  @Says(promise = 19, text = "in how many ROWS one behind the other a THREAD is so at most (1)")
  static void rowsThatWereDroppedAreNotCounted() {
    LoomCards x = cards(0x0f, 0xf0);
    x.pick(0);
    times(19, () -> x.pick(1));
    for (int rows = 20; rows >= 1; rows--) {
      due(rows + " rows", x.floats(1), Math.max(rows - 1, 1));
      x.drop();
    }
  }

  @Says(promise = 19, text = "0 without ROWS")
  static void floatsAre0WithoutRows() {
    LoomCards x = cards(0, 255);
    due("floats(0)", x.floats(0), 0);
    due("floats(1)", x.floats(1), 0);
    x.pick(0);
    due("floats(0)", x.floats(0), 16);
    due("floats(1)", x.floats(1), 1);
    x.drop();
    due("floats(0)", x.floats(0), 0);
    due("floats(1)", x.floats(1), 0);
  }

  @Says(promise = 19, text = "BEYOND.")
  static void floatsTakesWhat0And1() {
    LoomCards x = woven(1);
    takes("what", 0, 1, v -> x.floats(v));
    takes("without rows, what", 0, 1, v -> new LoomCards().floats(v));
  }
}
