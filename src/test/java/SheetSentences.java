/** Promises 33 to 42: the sheets. */
final class SheetSentences extends Sentences {

  /** Sheet 0 with these numbers of 64 bits. */
  private static LoomCards told(LoomCards x, long... numbers) {
    x.sheet(0, 64, numbers.length);
    for (int i = 0; i < numbers.length; i++) x.write(0, i, numbers[i]);
    return x;
  }

  // ---- 33: sheet

  @Says(promise = 33, text = "A sheet has n numbers, all 0, of 8, 16 or 64 bits")
  static void aSheetHasFrom0To40NumbersAll0() {
    for (int bits : new int[] {8, 16, 64}) {
      for (int n : new int[] {0, 1, 39, 40}) {
        LoomCards x = new LoomCards();
        due("sheet(0, " + bits + ", " + n + ")", x.sheet(0, bits, n), n);
        for (int i = 0; i < n; i++) due("number " + i, x.write(0, i, -1), 0);
        due("one behind", x.write(0, n, 0), BEYOND);
        due("made anew", x.sheet(0, bits, n), n);
        for (int i = 0; i < n; i++) due("number " + i + " anew", x.write(0, i, 0), 0);
      }
    }
  }

  @Says(promise = 33, text = "bits 0: it is MISSING: n (0 if it is MISSING)")
  static void aSheetOf0BitsIsMissing() {
    for (int n : new int[] {0, 1, 40}) {
      LoomCards x = new LoomCards();
      x.sheet(2, 16, 5);
      due("sheet(2, 0, " + n + ")", x.sheet(2, 0, n), 0);
      due("write", x.write(2, 0, 1), MISSING);
      due("read", x.read(2), MISSING);
      due("missing already", x.sheet(2, 0, n), 0);
    }
  }

  @Says(promise = 33, text = "A sheet has n numbers, all 0")
  static void aSheetThatWasMissingHasNothingOfBefore() {
    LoomCards x = told(new LoomCards(), 7, 8, 9);
    x.sheet(0, 0, 0);
    x.sheet(0, 64, 3);
    for (int i = 0; i < 3; i++) due("number " + i, x.write(0, i, 0), 0);
  }

  @Says(promise = 33, text = "A sheet has n numbers, all 0")
  static void aSheetMadeLargerHasNothingOfBefore() {
    LoomCards x = told(new LoomCards(), 7, 8, 9);
    x.sheet(0, 64, 1);
    x.sheet(0, 64, 3);
    for (int i = 0; i < 3; i++) due("number " + i, x.write(0, i, 0), 0);
  }

  @Says(promise = 33, text = "BEYOND: no such sheet, other bits.")
  static void sheetTakesSheets0To3() {
    takes("s", 0, 3, v -> new LoomCards().sheet(v, 8, 1));
    takes("s, bits 0", 0, 3, v -> new LoomCards().sheet(v, 0, 0));
  }

  @Says(promise = 33, text = "BEYOND: no such sheet, other bits.")
  static void sheetTakes0And8And16And64BitsAlone() {
    LoomCards x = new LoomCards();
    for (int bits = -70; bits <= 140; bits++) {
      boolean may = bits == 0 || bits == 8 || bits == 16 || bits == 64;
      due("bits " + bits, x.sheet(0, bits, 1), !may ? BEYOND : bits == 0 ? 0 : 1);
    }
    due("bits least", x.sheet(0, MIN, 1), BEYOND);
    due("bits most", x.sheet(0, MAX, 1), BEYOND);
  }

  @Says(promise = 33, text = "SIZE: n is below 0 (also with bits 0).")
  static void nBelow0IsSize() {
    for (int bits : new int[] {0, 8, 16, 64}) {
      LoomCards x = new LoomCards();
      due("n -1", x.sheet(0, bits, -1), SIZE);
      due("n least", x.sheet(0, bits, MIN), SIZE);
      due("n 0", x.sheet(0, bits, 0), 0);
    }
  }

  @Says(promise = 33, text = "BEYOND: n is above 40 (also with bits 0).")
  static void nAbove40IsBeyond() {
    for (int bits : new int[] {0, 8, 16, 64}) {
      LoomCards x = new LoomCards();
      due("n 40", x.sheet(0, bits, 40), bits == 0 ? 0 : 40);
      due("n 41", x.sheet(0, bits, 41), BEYOND);
      due("n most", x.sheet(0, bits, MAX), BEYOND);
      if (bits > 0) due("it stays", x.write(0, 39, 0), 0);
    }
  }

  @Says(promise = 33, text = "BEYOND: no such sheet, other bits. SIZE: n is below 0")
  static void sheetAsksBeyondAheadOfSize() {
    LoomCards x = new LoomCards();
    due("s 4, n -1", x.sheet(4, 8, -1), BEYOND);
    due("s -1, n -1", x.sheet(-1, 8, -1), BEYOND);
    due("bits 32, n -1", x.sheet(0, 32, -1), BEYOND);
    due("bits -8, n least", x.sheet(0, -8, MIN), BEYOND);
    due("status(6)", x.status(6), 0);
  }

  // ---- 34: write

  @Says(promise = 34, text = "Number i of a sheet becomes v (its lowest bits): what it was.")
  static void writeKeepsTheLowestBitsWithTheirSign() {
    long[] values = {0, 1, -1, 127, 128, -128, -129, 255, 256, 32767, 32768, -32768, -32769, 65535, 65536,
        1L << 31, 1L << 32, Long.MAX_VALUE, Long.MIN_VALUE};
    LoomCards x = new LoomCards();
    x.sheet(0, 8, 1);
    x.sheet(1, 16, 1);
    x.sheet(2, 64, 1);
    for (long v : values) {
      for (int s = 0; s < 3; s++) x.write(s, 0, v);
      due("8 bits of " + v, x.write(0, 0, 0), (byte) v);
      due("16 bits of " + v, x.write(1, 0, 0), (short) v);
      due("64 bits of " + v, x.write(2, 0, 0), v);
    }
  }

  @Says(promise = 34, text = "what it was")
  static void aNumberMayBeAsLowAsAFinding() {
    LoomCards x = new LoomCards();
    x.sheet(0, 64, 1);
    for (long v = SIZE; v <= BEYOND; v++) {
      x.write(0, 0, v);
      due("write", x.write(0, 0, 0), v);
    }
    due("status(-1)", x.status(-1), 0);
  }

  @Says(promise = 34, text = "Number i of a sheet becomes v")
  static void writeChangesOneNumberOfOneSheet() {
    LoomCards x = new LoomCards();
    for (int s = 0; s < 4; s++) x.sheet(s, 64, 40);
    x.write(1, 39, 5);
    x.write(1, 0, 6);
    for (int s = 0; s < 4; s++) {
      due("number 38", x.write(s, 38, 0), 0);
      due("number 39", x.write(s, 39, 0), s == 1 ? 5 : 0);
      due("number 0", x.write(s, 0, 0), s == 1 ? 6 : 0);
      due("number 1", x.write(s, 1, 0), 0);
    }
  }

  @Says(promise = 34, text = "BEYOND: no such sheet.")
  static void writeTakesSheets0To3() {
    LoomCards x = new LoomCards();
    for (int s = 0; s < 4; s++) x.sheet(s, 8, 1);
    takes("s", 0, 3, v -> x.write(v, 0, 0));
  }

  @Says(promise = 34, text = "MISSING.")
  static void writeNeedsASheet() {
    LoomCards x = new LoomCards();
    for (int s = 0; s < 4; s++) due("write(" + s + ", 0, 0)", x.write(s, 0, 0), MISSING);
  }

  @Says(promise = 34, text = "BEYOND: no such number.")
  static void writeTakesNumbersThatAreThere() {
    LoomCards x = new LoomCards();
    x.sheet(0, 8, 0);
    due("of none", x.write(0, 0, 0), BEYOND);
    for (int n : new int[] {1, 2, 39, 40}) {
      x.sheet(0, 8, n);
      takes("of " + n + ", i", 0, n - 1, v -> x.write(0, v, 0));
    }
  }

  @Says(promise = 34, text = "BEYOND: no such sheet. MISSING. BEYOND: no such number.")
  static void writeAsksMissingAheadOfTheNumber() {
    LoomCards x = new LoomCards();
    due("missing, i -1", x.write(0, -1, 0), MISSING);
    due("missing, i 40", x.write(3, 40, 0), MISSING);
    due("no such sheet, i -1", x.write(4, -1, 0), BEYOND);
  }

  // ---- 35: copy

  private static LoomCards twoSheets() {
    LoomCards x = new LoomCards();
    x.sheet(0, 16, 6);
    x.sheet(1, 16, 4);
    for (int i = 0; i < 6; i++) x.write(0, i, i + 1);
    return x;
  }

  private static void numbers(LoomCards x, int s, long... want) {
    for (int i = 0; i < want.length; i++) due("sheet " + s + ", number " + i, x.write(s, i, 0), want[i]);
  }

  @Says(promise = 35, text = "n numbers of a sheet from one on come to another one from one on (as they all were): n.")
  static void copyTakesFromNoneToAll() {
    LoomCards x = twoSheets();
    due("none", x.copy(0, 0, 1, 0, 0), 0);
    due("the last ones", x.copy(0, 4, 1, 2, 2), 2);
    numbers(x, 1, 0, 0, 5, 6);
    x = twoSheets();
    due("all that it has room for", x.copy(0, 0, 1, 0, 4), 4);
    numbers(x, 1, 1, 2, 3, 4);
    x = new LoomCards();
    x.sheet(0, 64, 40);
    x.sheet(3, 64, 40);
    x.write(0, 0, 7);
    x.write(0, 39, 8);
    due("40", x.copy(0, 0, 3, 0, 40), 40);
    due("the first", x.write(3, 0, 0), 7);
    due("the last", x.write(3, 39, 0), 8);
    due("the source stays", x.write(0, 39, 0), 8);
  }

  @Says(promise = 35, text = "(as they all were)")
  static void copyWithinASheetTakesTheNumbersAsTheyWere() {
    LoomCards x = twoSheets();
    due("up", x.copy(0, 0, 0, 1, 5), 5);
    numbers(x, 0, 1, 1, 2, 3, 4, 5);
    x = twoSheets();
    due("down", x.copy(0, 1, 0, 0, 5), 5);
    numbers(x, 0, 2, 3, 4, 5, 6, 6);
    x = twoSheets();
    due("onto itself", x.copy(0, 0, 0, 0, 6), 6);
    numbers(x, 0, 1, 2, 3, 4, 5, 6);
  }

  @Says(promise = 35, text = "BEYOND: no such sheet (either).")
  static void copyTakesSheets0To3() {
    LoomCards x = new LoomCards();
    for (int s = 0; s < 4; s++) x.sheet(s, 8, 1);
    takes("s", 0, 3, v -> x.copy(v, 0, 0, 0, 1));
    takes("t", 0, 3, v -> x.copy(0, 0, v, 0, 1));
  }

  @Says(promise = 35, text = "MISSING: one is.")
  static void copyNeedsBothSheets() {
    LoomCards x = twoSheets();
    due("s", x.copy(2, 0, 0, 0, 0), MISSING);
    due("t", x.copy(0, 0, 2, 0, 0), MISSING);
    due("both", x.copy(2, 0, 3, 0, 0), MISSING);
    due("the same", x.copy(2, 0, 2, 0, 0), MISSING);
  }

  @Says(promise = 35, text = "KIND: they are not of as many bits.")
  static void copyNeedsAsManyBits() {
    int[] all = {8, 16, 64};
    for (int one : all) {
      for (int other : all) {
        LoomCards x = new LoomCards();
        x.sheet(0, one, 2);
        x.sheet(1, other, 2);
        due(one + " to " + other, x.copy(0, 0, 1, 0, 2), one == other ? 2 : KIND);
        due(one + " to " + other + ", none", x.copy(0, 0, 1, 0, 0), one == other ? 0 : KIND);
      }
    }
  }

  @Says(promise = 35, text = "BEYOND: one has not so many, or from, to or n is below 0.")
  static void copyTakesWhatBothHave() {
    LoomCards x = twoSheets();
    takes("n, by the source", 0, 2, v -> x.copy(0, 4, 1, 0, v));
    takes("n, by the target", 0, 2, v -> x.copy(0, 0, 1, 2, v));
    takes("from", 0, 4, v -> x.copy(0, v, 1, 0, 2));
    takes("to", 0, 2, v -> x.copy(0, 0, 1, v, 2));
  }

  @Says(promise = 35, text = "BEYOND: one has not so many, or from, to or n is below 0.")
  static void copyOfNoneTakesTheEndsOfBoth() {
    LoomCards x = twoSheets();
    takes("from", 0, 6, v -> x.copy(0, v, 1, 0, 0));
    takes("to", 0, 4, v -> x.copy(0, 0, 1, v, 0));
    x.sheet(2, 16, 0);
    due("of an empty sheet", x.copy(2, 0, 2, 0, 0), 0);
    due("one of an empty sheet", x.copy(2, 0, 0, 0, 1), BEYOND);
    due("one to an empty sheet", x.copy(0, 0, 2, 0, 1), BEYOND);
  }

  @Says(promise = 35, text = "BEYOND: one has not so many")
  static void copyIsNotFooledByAWrapAround() {
    LoomCards x = twoSheets();
    due("from and n", x.copy(0, MAX, 1, 0, MAX), BEYOND);
    due("from 1, n most", x.copy(0, 1, 1, 0, MAX), BEYOND);
    due("from most, n 1", x.copy(0, MAX, 1, 0, 1), BEYOND);
    due("to most, n 1", x.copy(0, 0, 1, MAX, 1), BEYOND);
    due("from least", x.copy(0, MIN, 1, 0, MAX), BEYOND);
    due("n least", x.copy(0, MAX, 1, MAX, MIN), BEYOND);
  }

  @Says(promise = 35, text = "BEYOND: no such sheet (either). MISSING: one is. KIND: they are not of as many bits. BEYOND: one has not so many")
  static void copyAsksItsFindingsInTheirOrder() {
    LoomCards x = twoSheets();
    x.sheet(2, 8, 6);
    due("no such s, t is missing", x.copy(4, 0, 3, 0, 0), BEYOND);
    due("s is missing, no such t", x.copy(3, 0, -1, 0, 0), BEYOND);
    due("missing and n", x.copy(3, 0, 0, 0, -1), MISSING);
    due("missing and from", x.copy(0, -1, 3, 0, 0), MISSING);
    due("bits and n", x.copy(0, 0, 2, 0, -1), KIND);
    due("bits and from", x.copy(0, 7, 2, 0, 1), KIND);
    due("bits and to", x.copy(0, 0, 2, MIN, 1), KIND);
    due("status(0)", x.status(0), 2);
  }

  // ---- 36: draw

  @Says(promise = 36, text = "ROWS of THE CLOTH come to a sheet, as far as it has numbers: how many.")
  static void drawTakesAsManyAsBothHave() {
    for (int rows : new int[] {0, 1, 2, 19, 20}) {
      for (int n : new int[] {0, 1, 2, 19, 20, 21, 40}) {
        LoomCards x = cards(0x7f);
        times(rows, () -> x.pick(0));
        x.sheet(0, 64, n);
        for (int i = 0; i < n; i++) x.write(0, i, 5);
        int drawn = Math.min(rows, n);
        due(rows + " rows, " + n + " numbers", x.draw(0), drawn);
        for (int i = 0; i < n; i++) due("number " + i, x.write(0, i, 0), i < drawn ? 0x7f7f : 5);
      }
    }
  }

  @Says(promise = 36, text = "ROWS of THE CLOTH come to a sheet")
  static void aDrawnRowOf16BitsHasItsSign() {
    LoomCards x = woven(255);
    x.sheet(0, 8, 1);
    x.sheet(1, 16, 1);
    x.sheet(2, 64, 1);
    for (int s = 0; s < 3; s++) x.draw(s);
    due("8 bits", x.write(0, 0, 0), -1);
    due("16 bits", x.write(1, 0, 0), -1);
    due("64 bits", x.write(2, 0, 0), 0xffff);
  }

  @Says(promise = 36, text = "BEYOND: no such sheet.")
  static void drawTakesSheets0To3() {
    LoomCards x = new LoomCards();
    for (int s = 0; s < 4; s++) x.sheet(s, 8, 1);
    takes("s", 0, 3, v -> x.draw(v));
  }

  @Says(promise = 36, text = "MISSING.")
  static void drawNeedsASheet() {
    for (int s = 0; s < 4; s++) due("draw(" + s + ")", woven(1).draw(s), MISSING);
  }

  // ---- 37: read

  @Says(promise = 37, text = "0 if it does, ROW by ROW, all of it")
  static void readTellsAllRowsFrom0To20() {
    for (int rows = 0; rows <= 20; rows++) {
      LoomCards x = cards(1, 0x82);
      for (int i = 0; i < rows; i++) x.pick(i % 2);
      x.sheet(0, 16, rows);
      x.draw(0);
      due(rows + " rows", x.read(0), 0);
    }
  }

  @Says(promise = 37, text = "else 1 and the place of the first that isn't")
  static void readTellsTheFirstAndTheLastPlace() {
    LoomCards x = cards(1);
    times(20, () -> x.pick(0));
    x.sheet(0, 64, 20);
    x.draw(0);
    for (int i = 19; i >= 0; i--) {
      for (int t : new int[] {0, 15}) {
        x.write(0, i, 0x0101 ^ 1 << t);
        due("number " + i + ", thread " + t, x.read(0), 1 + i);
      }
    }
  }

  @Says(promise = 37, text = "else 1 and the place of the first that isn't")
  static void aNumberBehindTheRowsIsNone() {
    LoomCards x = woven(1, 2);
    x.sheet(0, 16, 3);
    x.draw(0);
    due("one more", x.read(0), 3);
    x.sheet(0, 16, 40);
    x.draw(0);
    due("many more", x.read(0), 3);
    LoomCards none = new LoomCards();
    none.sheet(0, 16, 1);
    due("no rows, one number", none.read(0), 1);
    none.sheet(0, 16, 0);
    due("no rows, no numbers", none.read(0), 0);
  }

  @Says(promise = 37, text = "(1 and how many, if more must come)")
  static void readTellsThatMoreMustCome() {
    for (int n = 0; n < 20; n++) {
      LoomCards x = cards(1);
      times(20, () -> x.pick(0));
      x.sheet(0, 16, n);
      x.draw(0);
      due(n + " of 20", x.read(0), 1 + n);
    }
  }

  @Says(promise = 37, text = "BEYOND: no such sheet.")
  static void readTakesSheets0To3() {
    LoomCards x = new LoomCards();
    for (int s = 0; s < 4; s++) x.sheet(s, 8, 1);
    takes("s", 0, 3, v -> x.read(v));
  }

  @Says(promise = 37, text = "MISSING.")
  static void readNeedsASheet() {
    for (int s = 0; s < 4; s++) due("read(" + s + ")", new LoomCards().read(s), MISSING);
  }

  // ---- 38: whose

  @Says(promise = 38, text = "The CARD by which number i of a sheet is woven; of several the least.")
  static void whoseTellsTheFirstAndTheLastCard() {
    LoomCards x = told(tenCards(), 0x0101, 0x8080, 0);
    due("card 0", x.whose(0, 0), 0);
    due("card 7", x.whose(0, 1), 7);
    due("cards 8 and 9", x.whose(0, 2), 8);
    x.punch(8, 3, 1);
    due("card 9", x.whose(0, 2), 9);
  }

  @Says(promise = 38, text = "BEYOND: no such sheet.")
  static void whoseTakesSheets0To3() {
    LoomCards x = cards(0);
    for (int s = 0; s < 4; s++) x.sheet(s, 8, 1);
    takes("s", 0, 3, v -> x.whose(v, 0));
  }

  @Says(promise = 38, text = "MISSING.")
  static void whoseNeedsASheet() {
    for (int s = 0; s < 4; s++) due("whose(" + s + ", 0)", cards(0).whose(s, 0), MISSING);
  }

  @Says(promise = 38, text = "BEYOND: no such number.")
  static void whoseTakesNumbersThatAreThere() {
    LoomCards x = cards(0);
    x.sheet(0, 8, 0);
    due("of none", x.whose(0, 0), BEYOND);
    for (int n : new int[] {1, 2, 39, 40}) {
      x.sheet(0, 8, n);
      takes("of " + n + ", i", 0, n - 1, v -> x.whose(0, v));
    }
  }

  @Says(promise = 38, text = "NONE: by none.")
  static void aNumberMayBeWovenByNone() {
    LoomCards x = told(tenCards(), 0x0102, 0);
    due("unlike all", x.whose(0, 0), NONE);
    due("no cards", told(new LoomCards(), 0).whose(0, 0), NONE);
  }

  @Says(promise = 38, text = "BEYOND: no such sheet. MISSING. BEYOND: no such number. NONE: by none.")
  static void whoseAsksItsFindingsInTheirOrder() {
    LoomCards x = told(new LoomCards(), 5);
    due("no such sheet, no number", x.whose(4, 9), BEYOND);
    due("missing, no number", x.whose(1, -1), MISSING);
    due("no number, by none", x.whose(0, 1), BEYOND);
    due("status(3)", x.status(3), 0);
  }

  // ---- 39: nearest

  @Says(promise = 39, text = "The CARD whose THREADS are least FAR from number i of a sheet; of several the least.")
  static void nearestTellsTheFirstAndTheLastCard() {
    LoomCards x = told(cards(0, 0, 0, 0, 0, 0, 0, 0, 0, 255), 0x00ff, 0x01ff, 0, 0xffff);
    due("as far from all: the least", x.nearest(0, 0), 0);
    due("one thread nearer to the last", x.nearest(0, 1), 9);
    due("none far", x.nearest(0, 2), 0);
    due("none far", x.nearest(0, 3), 9);
  }

  @Says(promise = 39, text = "The CARD whose THREADS are least FAR")
  static void aCardAloneIsTheNearestHoweverFar() {
    due("16 threads far", told(cards(255), 0).nearest(0, 0), 0);
    due("bits above 16 do not count", told(cards(0, 255), 0xffff0000L).nearest(0, 0), 0);
  }

  @Says(promise = 39, text = "Refused as whose()")
  static void nearestIsRefusedAsWhose() {
    LoomCards x = cards(0);
    for (int s = 0; s < 4; s++) due("missing", x.nearest(s, 0), MISSING);
    for (int s = 0; s < 4; s++) x.sheet(s, 8, 1);
    takes("s", 0, 3, v -> x.nearest(v, 0));
    for (int n : new int[] {1, 2, 39, 40}) {
      x.sheet(0, 8, n);
      takes("of " + n + ", i", 0, n - 1, v -> x.nearest(0, v));
    }
    x.sheet(0, 8, 0);
    due("of none", x.nearest(0, 0), BEYOND);
  }

  @Says(promise = 39, text = "NONE: there are no CARDS.")
  static void nothingIsNearestWithoutCards() {
    LoomCards x = told(new LoomCards(), 0);
    due("no cards", x.nearest(0, 0), NONE);
    x.card(255, 0);
    due("one card", x.nearest(0, 0), 0);
  }

  @Says(promise = 39, text = "Refused as whose(); NONE: there are no CARDS.")
  static void nearestAsksItsFindingsInTheirOrder() {
    LoomCards x = told(new LoomCards(), 0);
    due("no such sheet, no cards", x.nearest(4, 0), BEYOND);
    due("missing, no number, no cards", x.nearest(1, 7), MISSING);
    due("no number, no cards", x.nearest(0, 1), BEYOND);
    due("no number, no cards", x.nearest(0, -1), BEYOND);
    due("status(3)", x.status(3), 0);
  }

  // ---- 40: crossings

  @Says(promise = 40, text = "How FAR the numbers of a sheet are from the nearest CARDS, all together.")
  static void crossingsAreFrom0To640() {
    LoomCards x = cards(255);
    x.sheet(0, 16, 0);
    due("no numbers", x.crossings(0), 0);
    for (int n : new int[] {1, 39, 40}) {
      x.sheet(0, 16, n);
      due(n + " numbers", x.crossings(0), 16 * n);
    }
    x.card(0, 0);
    due("the nearest card is none far", x.crossings(0), 0);
    x.write(0, 0, 1);
    x.write(0, 39, 0x7fff);
    due("the first and the last", x.crossings(0), 2);
  }

  @Says(promise = 40, text = "BEYOND: no such sheet.")
  static void crossingsTakesSheets0To3() {
    LoomCards x = cards(0);
    for (int s = 0; s < 4; s++) x.sheet(s, 8, 1);
    takes("s", 0, 3, v -> x.crossings(v));
  }

  @Says(promise = 40, text = "MISSING.")
  static void crossingsNeedsASheet() {
    for (int s = 0; s < 4; s++) due("crossings(" + s + ")", cards(0).crossings(s), MISSING);
  }

  @Says(promise = 40, text = "NONE: there are no CARDS.")
  static void nothingIsCrossedWithoutCards() {
    due("one number", told(new LoomCards(), 0).crossings(0), NONE);
    due("no numbers", told(new LoomCards()).crossings(0), NONE);
  }

  @Says(promise = 40, text = "BEYOND: no such sheet. MISSING. NONE: there are no CARDS.")
  static void crossingsAsksItsFindingsInTheirOrder() {
    LoomCards x = new LoomCards();
    due("no such sheet, no cards", x.crossings(4), BEYOND);
    due("no such sheet, no cards", x.crossings(-1), BEYOND);
    due("missing, no cards", x.crossings(0), MISSING);
  }

  // ---- 41: mark

  @Says(promise = 41, text = "differs from THE CLOTH in one THREAD of one ROW alone: 100 times the ROW, and the THREAD")
  static void aMarkIsTheFirstOrTheLastThreadOfTheFirstOrTheLastRow() {
    LoomCards x = cards(0x5a);
    times(20, () -> x.pick(0));
    x.sheet(0, 16, 20);
    for (int row : new int[] {0, 1, 18, 19}) {
      for (int thread = 0; thread < 16; thread++) {
        x.draw(0);
        x.write(0, row, 0x5a5a ^ 1 << thread);
        due("row " + row + ", thread " + thread, x.mark(0), 100 * row + thread);
      }
    }
  }

  @Says(promise = 41, text = "BEYOND: no such sheet.")
  static void markTakesSheets0To3() {
    LoomCards x = woven(0);
    for (int s = 0; s < 4; s++) x.write(s, x.sheet(s, 8, 1) - 1, 1);
    takes("s", 0, 3, v -> x.mark(v));
  }

  @Says(promise = 41, text = "MISSING.")
  static void markNeedsASheet() {
    for (int s = 0; s < 4; s++) due("mark(" + s + ")", woven(0).mark(s), MISSING);
    due("no rows", new LoomCards().mark(0), MISSING);
  }

  @Says(promise = 41, text = "SIZE: it has more, or fewer.")
  static void markTakesAsManyNumbersAsRows() {
    for (int rows : new int[] {0, 1, 19, 20}) {
      LoomCards x = cards(0);
      times(rows, () -> x.pick(0));
      for (int n = 0; n <= 40; n++) {
        x.sheet(0, 16, n);
        if (n > 0) x.write(0, 0, 2);
        due(rows + " rows, " + n + " numbers", x.mark(0), n != rows ? SIZE : n == 0 ? NONE : 1);
      }
    }
  }

  @Says(promise = 41, text = "NONE: no such mark.")
  static void noMarkOrTwoAreNone() {
    due("no rows", told(new LoomCards()).mark(0), NONE);
    due("as the cloth", told(woven(1, 2), 0x0101, 0x0202).mark(0), NONE);
    due("one", told(woven(1, 2), 0x0101, 0x0203).mark(0), 100);
    due("two in one row", told(woven(1, 2), 0x0101, 0x0201).mark(0), NONE);
    due("one in two rows", told(woven(1, 2), 0x0100, 0x0203).mark(0), NONE);
    due("the same thread in two rows", told(woven(1, 2), 0x0100, 0x0203).mark(0), NONE);
    due("all threads of a row", told(woven(0), 0xffff).mark(0), NONE);
    due("above the lowest 16 bits", told(woven(0), 0x10000).mark(0), NONE);
  }

  @Says(promise = 41, text = "SIZE: it has more, or fewer. NONE: no such mark.")
  static void markAsksSizeAheadOfNone() {
    due("fewer, as the cloth", told(woven(1, 2), 0x0101).mark(0), SIZE);
    due("more, as the cloth", told(woven(1), 0x0101, 0).mark(0), SIZE);
    due("fewer, with a mark", told(woven(1, 2), 0x0100).mark(0), SIZE);
  }

  // ---- 42: order

  @Says(promise = 42, text = "Numbers of a sheet become THE ORDER, each by the CARD that weaves it: how many came")
  static void orderTakesTheLeastCardThatWeavesANumber() {
    LoomCards x = told(tenCards(), 0, 0x8080, 0x0101);
    due("order(0)", x.order(0), 3);
    int[] want = {8, 7, 0};
    for (int i = 0; i < 3; i++) due("woven(" + i + ")", x.woven(i), want[i]);
  }

  @Says(promise = 42, text = "it ends at the first that none weaves")
  static void orderEndsAtTheFirstThatNoneWeaves() {
    for (int bad = 0; bad < 5; bad++) {
      LoomCards x = told(tenCards(), 1 * 0x0101, 2 * 0x0101, 4 * 0x0101, 8 * 0x0101, 16 * 0x0101);
      times(7, () -> x.pick(9));
      x.write(0, bad, 0x0102);
      due("number " + bad, x.order(0), bad);
      due("rows", x.count(2), bad);
      for (int i = 0; i < bad; i++) due("woven(" + i + ")", x.woven(i), i);
    }
  }

  @Says(promise = 42, text = "how many came")
  static void orderOfNoNumbersIsEmpty() {
    LoomCards x = told(woven(1, 2));
    due("no numbers", x.order(0), 0);
    due("rows", x.count(2), 0);
    LoomCards y = told(new LoomCards(), 0);
    due("no cards", y.order(0), 0);
    due("status(-1)", y.status(-1), 0);
  }

  @Says(promise = 42, text = "or behind 20")
  static void orderEndsBehind20() {
    for (int n : new int[] {19, 20, 21, 40}) {
      LoomCards x = cards(0, 1);
      x.sheet(0, 16, n);
      if (n > 19) x.write(0, 19, 0x0101);
      due(n + " numbers", x.order(0), Math.min(n, 20));
      due("rows", x.count(2), Math.min(n, 20));
      if (n > 19) due("woven(19)", x.woven(19), 1);
    }
  }

  @Says(promise = 42, text = "BEYOND: no such sheet.")
  static void orderTakesSheets0To3() {
    LoomCards x = cards(0);
    for (int s = 0; s < 4; s++) x.sheet(s, 8, 1);
    takes("s", 0, 3, v -> x.order(v));
  }

  @Says(promise = 42, text = "MISSING.")
  static void orderNeedsASheet() {
    LoomCards x = woven(1, 2);
    for (int s = 0; s < 4; s++) due("order(" + s + ")", x.order(s), MISSING);
    due("rows", x.count(2), 2);
  }
}
