/** Promises 30 to 32, and what the terms say of a text: the tape, its tokens, its items, its faults. */
final class TextSentences extends Sentences {

  private static final String[] NAMES = {"law", "even", "long", "step", "tight", "turn"};

  /** A loom with as many cards and laws as this. */
  private static LoomCards with(int cards, int laws) {
    LoomCards x = cards(new int[cards]);
    times(laws, () -> x.law(0, 1));
    return x;
  }

  // ---- 30: feed

  @Says(promise = 30, text = "THE TAPE gets the n lowest bytes of a number behind it, the highest of these first (n 1 to 4): how many it has.")
  static void feedPutsTheHighestOfTheLowestBytesFirst() {
    for (int n = 1; n <= 4; n++) {
      LoomCards x = new LoomCards();
      // Bytes above the n lowest ones are no part of it: they would be a fault.
      String text = "law 3".substring(5 - n);
      feed(x, "law 3".substring(0, 5 - n));
      int bytes = -1;
      for (int i = 0; i < n; i++) bytes = bytes << 8 | text.charAt(i);
      due("feed of " + n, x.feed(bytes, n), 5);
      due("loom()", x.loom(), 1);
      due("n of the law", x.lawOf(0, 1), 3);
    }
  }

  @Says(promise = 30, text = "(n 1 to 4)")
  static void feedTakesNFrom1To4() {
    takes("n", 1, 4, v -> new LoomCards().feed(0, v));
  }

  @Says(promise = 30, text = "BEYOND: n.")
  static void feedTakesAnyNumber() {
    LoomCards x = new LoomCards();
    int[] numbers = {0, -1, MIN, MAX};
    for (int i = 0; i < 4; i++) due("feed(" + numbers[i] + ", 1)", x.feed(numbers[i], 1), i + 1);
  }

  @Says(promise = 30, text = "FULL.")
  static void theTapeHas120BytesAtMost() {
    for (int n = 1; n <= 4; n++) {
      for (int room = 0; room <= 5; room++) {
        LoomCards x = new LoomCards();
        feed(x, " ".repeat(120 - room));
        boolean fits = n <= room;
        due(n + " where " + room + " are free", x.feed(0x20202020, n), fits ? 120 - room + n : FULL);
        due("count(4)", x.count(4), fits ? 120 - room + n : 120 - room);
      }
    }
  }

  @Says(promise = 30, text = "FULL.")
  static void thereIsRoomAgainBehindWipeAndBehindLoom() {
    LoomCards x = new LoomCards();
    feed(x, " ".repeat(120));
    x.wipe();
    due("behind wipe()", x.feed(0, 4), 4);
    feed(x, " ".repeat(116));
    x.loom();
    due("behind loom()", x.feed(0, 4), 4);
  }

  @Says(promise = 30, text = "BEYOND: n. FULL.")
  static void feedAsksBeyondAheadOfFull() {
    LoomCards x = new LoomCards();
    feed(x, " ".repeat(120));
    due("n 5", x.feed(0, 5), BEYOND);
    due("n 0", x.feed(0, 0), BEYOND);
    due("n -1", x.feed(0, -1), BEYOND);
    due("n the most", x.feed(0, MAX), BEYOND);
    due("status(1)", x.status(1), 0);
  }

  // ---- 31: wipe

  @Says(promise = 31, text = "THE TAPE is empty: how many it had.")
  static void wipeTellsFrom0To120Bytes() {
    for (int n : new int[] {0, 1, 119, 120}) {
      LoomCards x = new LoomCards();
      feed(x, "a".repeat(n));
      due("wipe() of " + n, x.wipe(), n);
      due("count(4)", x.count(4), 0);
      due("wipe() again", x.wipe(), 0);
    }
  }

  @Says(promise = 31, text = "THE TAPE is empty")
  static void nothingOfAWipedTapeIsRead() {
    LoomCards x = new LoomCards();
    feed(x, "law 3;law 4");
    x.wipe();
    feed(x, "law 5");
    due("loom()", x.loom(), 1);
    due("n", x.lawOf(0, 1), 5);
  }

  // ---- 32: loom

  @Says(promise = 32, text = "THE TAPE is THE TEXT of a LOOM, whose ITEMS come to what there is, and empty then: how many ITEMS.")
  static void itemsComeToWhatThereIs() {
    LoomCards x = woven(1);
    x.law(LAW, 9);
    items(x, "card #.......;law 3;tie 0 7;order 1 0", 4);
    due("count(4)", x.count(4), 0);
    due("cards", x.count(0), 2);
    due("laws", x.count(1), 2);
    due("the first card stays", x.of(0, 0), 1);
    due("the first law stays", x.lawOf(0, 1), 9);
    due("the order is these", x.count(2), 2);
    due("tied(0)", x.tied(0), 7);
    due("tied(1)", x.tied(1), 1);
  }

  @Says(promise = 32, text = "how many ITEMS")
  static void aFullTapeIsReadToItsEnd() {
    LoomCards x = new LoomCards();
    StringBuilder text = new StringBuilder("tie0 3");
    for (int i = 1; i < 17; i++) text.append(";tie0 ").append((i + 3) % 8);
    String sixteen = text.substring(0, 111);
    items(x, text + "  ", 17);
    due("tied(0)", x.tied(0), 3);
    items(x, sixteen + ";tie01 07", 17);
    due("tied(1)", x.tied(1), 7);
    fault(x, sixteen + ";tie0   8", 119);
  }

  @Says(promise = 32, text = "With a FAULT: -1 less its place")
  static void aFaultAtTheFirstAndAtTheLastPlace() {
    fault("%", 0);
    fault(" ".repeat(119) + "%", 119);
    fault(" ".repeat(120), 120);
    fault("law 3" + " ".repeat(114) + ";", 120);
  }

  @Says(promise = 32, text = "With a FAULT: -1 less its place")
  static void anEmptyTapeIsAFaultAtItsEnd() {
    fault("", 0);
    LoomCards x = woven(1);
    fault(x, "", 0);
    due("cards", x.count(0), 1);
    due("rows", x.count(2), 1);
  }

  @Says(promise = 32, text = "nothing changes but that THE TAPE is empty")
  static void whatStandsAheadOfAFaultDoesNotCome() {
    LoomCards x = woven(1, 2);
    x.law(LAW, 9);
    x.tie(3, 5);
    x.image();
    fault(x, "card ########;tie 3 6;law 3;order 2 2 2;card #", 45);
    due("cards", x.count(0), 2);
    due("laws", x.count(1), 1);
    due("rows", x.count(2), 2);
    due("woven(0)", x.woven(0), 0);
    due("woven(1)", x.woven(1), 1);
    due("tied(3)", x.tied(3), 5);
    due("count(4)", x.count(4), 0);
    due("the image", x.undo(), 2);
  }

  @Says(promise = 32, text = "no finding")
  static void aFaultIsNoFinding() {
    LoomCards x = new LoomCards();
    fault(x, "", 0);
    fault(x, "nine", 0);
    fault(x, "law 17", 4);
    due("status(-1)", x.status(-1), 0);
  }

  // ---- tokens

  @Says(promise = 0, text = "TOKENS, each as long as can be")
  static void tokensAreAsLongAsCanBe() {
    items(new LoomCards(), "law3", 1);
    items(new LoomCards(), "tie1 2;law3;card########", 3);
    fault("tie12", 5);
    fault("lawlaw 3", 0);
    fault("cardcard ########", 0);
    fault("card ################", 5);
    fault("law 33", 4);
    fault("law 3 3", 6);
    fault("la w 3", 0);
    fault("card #### ####", 5);
  }

  @Says(promise = 0, text = "WORDS (letters a to z)")
  static void lettersAreFromAToZ() {
    // A byte beside a to z is no letter, so it ends the word; a letter makes it another word.
    fault("law` 3", 3);
    fault("law{ 3", 3);
    fault("lawa 3", 0);
    fault("lawz 3", 0);
    fault("LAW 3", 0);
    fault("lawA 3", 3);
    fault("lawZ 3", 3);
    fault("law\u00e1 3", 3);
  }

  @Says(promise = 0, text = "NUMBERS (digits, 999 at most)")
  static void digitsAreFrom0To9() {
    LoomCards x = with(10, 0);
    items(x, "order 0 1 2 3 4 5 6 7 8 9", 1);
    due("woven(9)", x.woven(9), 9);
    fault("law 3/", 5);
    fault("law 3:", 5);
    fault("law /3", 4);
    fault("law :3", 4);
    fault("law -3", 4);
    fault("law +3", 4);
  }

  @Says(promise = 0, text = "NUMBERS (digits, 999 at most)")
  static void aNumberThatIsTooLargeIsAFaultAtItsFirstByte() {
    for (String number : new String[] {"999", "1000", "1001", "1003", "65539", "4294967299",
        "18446744073709551619", "9".repeat(100)}) {
      fault("law " + number, 4);
      fault("tie " + number + " 0", 4);
      fault("tie 0 " + number, 6);
      fault(with(10, 0), "order 0 " + number, 8);
    }
  }

  @Says(promise = 0, text = "PUNCHES (bytes 0x23 #, 0x2e ., 0x3f ?)")
  static void punchesAreThreeBytesAlone() {
    for (int b = 0; b < 256; b++) {
      LoomCards x = new LoomCards();
      int got = loom(x, "card #......" + (char) b);
      boolean is = b == 0x23 || b == 0x2e || b == 0x3f;
      due("byte " + b, got, is ? 1 : -1 - 5);
      due("cards", x.count(0), is ? 1 : 0);
    }
  }

  @Says(promise = 0, text = "SIGN ;")
  static void semicolonAloneStandsBetweenItems() {
    for (int b = 0; b < 256; b++) {
      String text = "law 3" + (char) b + "law 4";
      int want = b == ';' ? 2 : b == ' ' ? -1 - 6 : b >= '0' && b <= '9' ? -1 - 4 : -1 - 5;
      due("byte " + b, loom(new LoomCards(), text), want);
    }
  }

  @Says(promise = 0, text = "blanks may stand between")
  static void blanksMayStandBetweenOrNot() {
    items(new LoomCards(), "   law   3   ;   tie   1   2   ", 2);
    items(new LoomCards(), "law3;tie1 2", 2);
    items(new LoomCards(), "law 3 ", 1);
    items(new LoomCards(), " law 3", 1);
  }

  @Says(promise = 0, text = "a byte that begins no TOKEN")
  static void eachByteThatBeginsNoTokenIsAFault() {
    for (int b = 0; b < 256; b++) {
      boolean begins = b >= 'a' && b <= 'z' || b >= '0' && b <= '9' || b == '#' || b == '.' || b == '?'
          || b == ';' || b == ' ';
      if (begins) continue;
      fault("" + (char) b, 0);
      fault((char) b + "law 3", 0);
      fault("law" + (char) b + "3", 3);
      fault("law 3" + (char) b, 5);
      fault("law 3;" + (char) b, 6);
    }
  }

  // ---- items

  @Says(promise = 0, text = "TEXT: ITEM { ; ITEM }.")
  static void aTextHasOneItemAtLeast() {
    items(new LoomCards(), "law 1", 1);
    items(new LoomCards(), "law 1;law 2", 2);
    fault("", 0);
    fault("   ", 3);
    fault(";", 0);
    fault(" ;law 1", 1);
    fault("law 1;", 6);
    fault("law 1;  ", 8);
    fault("law 1;;law 2", 6);
    fault("law 1 law 2", 6);
    fault("3", 0);
    fault("........", 0);
  }

  @Says(promise = 0, text = "card and PUNCHES (8 of them: HOOKS 0 to 7; # a HOLE, . none, ? EATEN): a new CARD")
  static void eachPunchStandsAtItsHook() {
    for (int hook = 0; hook < 8; hook++) {
      for (int v = 0; v <= 2; v++) {
        StringBuilder text = new StringBuilder("card ........");
        text.setCharAt(5 + hook, ".#?".charAt(v));
        LoomCards x = cards(255);
        items(x, text.toString(), 1);
        for (int h = 0; h < 8; h++) due(text + ", hook " + h, x.at(1, h), h == hook ? v : 0);
      }
    }
    LoomCards x = new LoomCards();
    items(x, "card ########;card ????????;card ........", 3);
    due("all holes", x.of(0, 0), 255);
    due("all eaten", x.of(1, 1), 255);
    due("none", x.of(2, 0) + x.of(2, 1), 0);
  }

  @Says(promise = 0, text = "PUNCHES (8 of them: HOOKS 0 to 7")
  static void punchesMayEndAtTheLastByteOfTheTape() {
    LoomCards x = new LoomCards();
    items(x, " ".repeat(107) + "card #.?.#.?#", 1);
    due("holes", x.of(0, 0), 0x91);
    due("eaten", x.of(0, 1), 0x44);
  }

  @Says(promise = 0, text = "PUNCHES (8 of them: HOOKS 0 to 7")
  static void punchesOfATapeBeforeAreNotRead() {
    for (String before : new String[] {"#", "?", "."}) {
      LoomCards x = new LoomCards();
      fault(x, before.repeat(120), 0);
      items(x, "card ........", 1);
      due("holes", x.of(0, 0), 0);
      due("eaten", x.of(0, 1), 0);
      due("how many holes", x.of(0, 2), 0);
      due("count(3)", x.count(3), 0);
    }
  }

  @Says(promise = 0, text = "PUNCHES (8 of them")
  static void punchesAreNeither7Nor9() {
    for (int n = 1; n <= 115; n++) {
      int got = loom(new LoomCards(), "card " + "#".repeat(n));
      due(n + " punches", got, n == 8 ? 1 : -1 - 5);
    }
    fault("card", 4);
    fault("card ;", 5);
    fault("card 8", 5);
    fault("card card", 5);
    fault("card abcdefgh", 5);
    fault("card 00000000", 5);
  }

  @Says(promise = 0, text = "tie, a NUMBER (THREAD), a NUMBER (HOOK)")
  static void tieInATextTakesThreads0To15AndHooks0To7() {
    for (int t = 0; t <= 20; t++) {
      LoomCards x = new LoomCards();
      due("tie " + t, loom(x, "tie " + t + " 4"), t <= 15 ? 1 : -1 - 4);
      if (t <= 15) due("tied(" + t + ")", x.tied(t), 4);
    }
    for (int h = 0; h <= 12; h++) {
      LoomCards x = new LoomCards();
      due("hook " + h, loom(x, "tie 9 " + h), h <= 7 ? 1 : -1 - 6);
      due("tied(9)", x.tied(9), h <= 7 ? h : 1);
    }
    fault("tie", 3);
    fault("tie 1", 5);
    fault("tie 1;", 5);
    fault("tie 1 2 3", 8);
    fault("tie # 2", 4);
    fault("tie 1 #", 6);
    fault("tie 16 8", 4);
    fault("tie 1 2;tie", 11);
    fault("tie 1 2;tie 3", 13);
    fault("tie 1 2;tie 3 x", 14);
    fault("tie 1 2;tie ..", 12);
  }

  @Says(promise = 0, text = "order, one or more NUMBERS")
  static void anOrderInATextHasOneNumberAtLeast() {
    LoomCards x = with(1, 0);
    x.pick(0);
    x.pick(0);
    fault(x, "order", 5);
    fault(x, "order ", 6);
    fault(x, "order;law 1", 5);
    fault(x, "order ;", 6);
    fault(x, "order law 1", 6);
    fault(x, "tie 0 0;order", 13);
    fault(x, "tie 0 0;order ........", 14);
    due("the order stays", x.count(2), 2);
    items(x, "order 0", 1);
    due("rows", x.count(2), 1);
  }

  @Says(promise = 0, text = "CARDS that are there by then")
  static void anOrderInATextTakesCardsThatAreThereByThen() {
    fault("order 0", 6);
    fault("order 0;card ........", 6);
    items(new LoomCards(), "card ........;order 0", 2);
    fault("card ........;order 0 1", 22);
    fault("card ........;order 0 1;card ........", 22);
    items(new LoomCards(), "card ........;card ........;order 0 1", 3);
    items(with(10, 0), "order 9", 1);
    fault(with(10, 0), "order 10", 6);
    fault(with(9, 0), "order 9", 6);
    items(with(9, 0), "card ........;order 9", 2);
  }

  @Says(promise = 0, text = "20 at most): THE ORDER is these")
  static void anOrderInATextTakes20NumbersAndNot21() {
    LoomCards x = with(2, 0);
    items(x, "order" + " 1".repeat(20), 1);
    due("rows", x.count(2), 20);
    due("woven(19)", x.woven(19), 1);
    fault(x, "order" + " 0".repeat(21), 46);
    due("woven(0)", x.woven(0), 1);
    items(x, "order 0;order 1 0", 2);
    due("the last one's", x.count(2), 2);
    due("woven(0)", x.woven(0), 1);
  }

  @Says(promise = 0, text = "the name of a KIND (law even long step tight turn), a NUMBER (N): a new LAW")
  static void eachNameOfAKindMakesALaw() {
    int[] kinds = {LAW, EVEN, LONG, STEP, TIGHT, TURN};
    for (int k = 0; k < 6; k++) {
      String name = NAMES[k];
      for (int n = 0; n <= 18; n++) {
        LoomCards x = new LoomCards();
        boolean may = n >= 1 && n <= 16;
        due(name + " " + n, loom(x, name + " " + n), may ? 1 : -2 - name.length());
        due("laws", x.count(1), may ? 1 : 0);
        if (!may) continue;
        due("kind", x.lawOf(0, 0), kinds[k]);
        due("n", x.lawOf(0, 1), n);
        due("in force", x.lawOf(0, 2), 1);
      }
      fault(name, name.length());
      fault(name + ";", name.length());
      fault(name + " x", name.length() + 1);
      fault(name + " 3 3", name.length() + 3);
      fault("law 3;" + name, 6 + name.length());
      fault("law 3;" + name + " x", 7 + name.length());
      fault("law 3;" + name + ";", 6 + name.length());
      fault("law 3;" + name + " ..", 7 + name.length());
    }
  }

  // ---- faults

  @Says(promise = 0, text = "FAULT: the place (from 0) of the first byte of the first TOKEN that can't stand there")
  static void theFirstFaultIsTold() {
    fault("law 17;tie 16 0", 4);
    fault("tie 1 8;law 17", 6);
    fault("tie 16 9", 4);
    fault("   lawn 17", 3);
    fault("law 3;  tie 3   9 ; nine", 16);
  }

  @Says(promise = 0, text = "a NUMBER that may not be")
  static void aNumberThatMayNotBeIsAFaultAtItsFirstByte() {
    fault("law 00", 4);
    fault("law 017", 4);
    items(new LoomCards(), "law 016", 1);
    fault("tie 016 0", 4);
    fault("tie 15 08", 7);
    fault(with(3, 0), "order 0 1 2 3 0", 12);
    items(with(4, 0), "order 0 1 2 3 0", 1);
  }

  @Says(promise = 0, text = "PUNCHES that aren't 8")
  static void punchesThatAreNot8AreAFaultAtTheirFirstByte() {
    fault("law 1; card   #.?#.?#", 14);
    fault("law 1; card   #.?#.?#.?", 14);
    fault("card#######", 4);
    fault("card#########", 4);
    items(new LoomCards(), "card#.?#.?#.", 1);
  }

  @Says(promise = 0, text = "another WORD")
  static void anotherWordIsAFault() {
    String[] words = {"a", "z", "cards", "car", "ties", "ti", "orders", "orde", "laws", "la", "evens", "eve",
        "longs", "lon", "steps", "ste", "tights", "tigh", "turns", "tur", "kind", "hard", "cord", "cars", "die", "toe",
        "tip", "older", "border", "ordes", "raw", "low", "lap", "oven", "ever", "song", "lung", "stem", "shep", "night",
        "tighs", "burn", "torn", "tura", "card" + "a".repeat(100)};
    for (String word : words) {
      fault(word, 0);
      fault("law 3; " + word + " 3", 7);
    }
  }

  @Says(promise = 0, text = "card for an 11th")
  static void cardForAnEleventhIsAFaultAtItsOwnPlace() {
    items(with(9, 0), "card ........", 1);
    fault(with(10, 0), "card ........", 0);
    fault(with(10, 0), "card", 0);
    fault(with(10, 0), " card #", 1);
    fault(with(9, 0), "card ........;  card ........", 16);
    LoomCards x = with(8, 0);
    items(x, "card ........;card ........", 2);
    due("cards", x.count(0), 10);
  }

  @Says(promise = 0, text = "the name of a KIND for a 7th LAW: its own")
  static void theNameOfAKindForASeventhLawIsAFaultAtItsOwnPlace() {
    for (String name : NAMES) {
      items(with(0, 5), name + " 1", 1);
      fault(with(0, 6), name + " 1", 0);
      fault(with(0, 6), name, 0);
      fault(with(0, 6), "tie 1 1; " + name + " 17", 9);
      fault(with(0, 5), "law 1;" + name + " 1", 6);
    }
    LoomCards x = new LoomCards();
    items(x, "law 1;law 2;law 3;law 4;law 5;law 6", 6);
    fault("law 1;law 2;law 3;law 4;law 5;law 6;law 7", 36);
  }

  @Says(promise = 0, text = "or how many bytes there are if it ends too early")
  static void aTextThatEndsTooEarlyHasItsFaultBehindItsBytes() {
    String[] texts = {"", " ", "law", "law ", "law   ", "card", "card  ", "tie", "tie ", "tie 1", "tie 1  ", "order",
        "order  ", "law 1;", "law 1; ", "law 1;card", "law 1;tie 2 "};
    for (String text : texts) fault(text, text.length());
    String most = " ".repeat(117) + "law";
    fault(most, 120);
  }
}
