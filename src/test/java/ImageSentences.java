/** Promises 43 to 47: images, counts, status. */
final class ImageSentences extends Sentences {

  // ---- 43: image

  @Says(promise = 43, text = "All that section 1 tells (THE TAPE not) is kept: 1.")
  static void anImageOfAnEmptyLoomIsKept() {
    LoomCards x = new LoomCards();
    due("image()", x.image(), 1);
    x.pick(x.card(1, 2));
    x.law(0, 3);
    x.tie(0, 7);
    due("undo()", x.undo(), 0);
    due("laws", x.count(1), 0);
    due("rows", x.count(2), 0);
    due("tied(0)", x.tied(0), 0);
    due("status(-1)", x.status(-1), 0);
  }

  @Says(promise = 43, text = "All that section 1 tells (THE TAPE not) is kept: 1.")
  static void anImageOfAFullLoomIsKept() {
    LoomCards x = new LoomCards();
    for (int c = 0; c < 10; c++) x.card(c, 0x80 | c << 4 & 0x70);
    for (int i = 0; i < 20; i++) x.pick(i * 3 % 10);
    for (int l = 0; l < 6; l++) x.law(5 - l, 11 + l);
    x.force(0, false);
    x.force(5, false);
    for (int t = 0; t < 16; t++) x.tie(t, 7 - t % 8);
    due("image()", x.image(), 1);
    for (int c = 0; c < 10; c++) x.punch(c, 7, 1);
    for (int i = 0; i < 20; i++) x.drop();
    x.lay(0x15, 3);
    for (int l = 0; l < 6; l++) x.set(l, 1);
    for (int l = 0; l < 6; l++) x.force(l, l % 5 == 0);
    for (int t = 0; t < 16; t++) x.tie(t, 0);
    due("undo()", x.undo(), 10);
    for (int c = 0; c < 10; c++) due("holes", x.of(c, 0), c);
    for (int c = 0; c < 10; c++) due("eaten", x.of(c, 1), 0x80 | c << 4 & 0x70);
    due("rows", x.count(2), 20);
    for (int i = 0; i < 20; i++) due("woven(" + i + ")", x.woven(i), i * 3 % 10);
    for (int l = 0; l < 6; l++) {
      due("kind", x.lawOf(l, 0), 5 - l);
      due("n", x.lawOf(l, 1), 11 + l);
      due("in force", x.lawOf(l, 2), l % 5 == 0 ? 0 : 1);
    }
    for (int t = 0; t < 16; t++) due("tied", x.tied(t), 7 - t % 8);
  }

  @Says(promise = 43, text = "(THE TAPE not)")
  static void theTapeIsNotKept() {
    LoomCards x = new LoomCards();
    feed(x, "law 3");
    x.image();
    feed(x, "  ");
    x.undo();
    due("what came behind the image stays", x.count(4), 7);
    x.wipe();
    x.undo();
    due("what was wiped stays away", x.count(4), 0);
  }

  @Says(promise = 43, text = "All that section 1 tells")
  static void sheetsAreNotKept() {
    LoomCards x = new LoomCards();
    x.sheet(0, 8, 2);
    x.image();
    x.write(0, 1, 5);
    x.sheet(1, 16, 3);
    x.undo();
    due("number 1", x.write(0, 1, 0), 5);
    due("sheet 1", x.write(1, 2, 0), 0);
    x.sheet(0, 0, 0);
    x.undo();
    due("sheet 0", x.write(0, 0, 0), MISSING);
  }

  // ---- 44: undo

  @Says(promise = 44, text = "It becomes what was kept latest (which stays): how many CARDS.")
  static void undoMayBeDoneAgainAndAgain() {
    LoomCards x = cards(1, 2);
    x.image();
    for (int i = 0; i < 5; i++) {
      x.card(3, 0);
      x.punch(0, 0, 2);
      due("undo()", x.undo(), 2);
      due("of(0, 0)", x.of(0, 0), 1);
    }
    due("undo() of nothing new", x.undo(), 2);
  }

  @Says(promise = 44, text = "what was kept latest")
  static void theLatestImageAloneIsKept() {
    LoomCards x = new LoomCards();
    for (int n = 1; n <= 10; n++) {
      x.card(n, 0);
      x.image();
    }
    due("undo()", x.undo(), 10);
    due("undo()", x.undo(), 10);
    due("tear()", x.tear(), 1);
    due("none is below", x.undo(), NONE);
  }

  @Says(promise = 44, text = "how many CARDS")
  static void undoMayBringCardsBackOrTakeThemAway() {
    LoomCards x = new LoomCards();
    x.image();
    times(10, () -> x.card(0, 0));
    due("to none", x.undo(), 0);
    times(10, () -> x.card(0, 0));
    x.image();
    due("to ten", x.undo(), 10);
  }

  @Says(promise = 44, text = "NONE: nothing is kept.")
  static void undoNeedsAnImage() {
    LoomCards x = woven(1);
    due("never kept", x.undo(), NONE);
    x.image();
    x.tear();
    x.card(2, 0);
    due("torn", x.undo(), NONE);
    due("cards", x.count(0), 2);
    due("rows", x.count(2), 1);
  }

  // ---- 45: tear

  @Says(promise = 45, text = "Nothing is kept: 1 if something was, else 0.")
  static void tearTellsWhetherSomethingWasKept() {
    LoomCards x = cards(1);
    due("never kept", x.tear(), 0);
    x.image();
    x.image();
    due("kept twice", x.tear(), 1);
    due("torn already", x.tear(), 0);
    due("cards stay", x.count(0), 1);
    x.image();
    x.undo();
    due("undo() leaves it", x.tear(), 1);
    due("status(-1)", x.status(-1), 0);
  }

  // ---- 46: count

  @Says(promise = 46, text = "0 CARDS, 1 LAWS, 2 ROWS, 3 EATEN places of all CARDS, 4 bytes of THE TAPE, 5 LAWS IN FORCE.")
  static void countsAreFromNoneToFull() {
    LoomCards x = new LoomCards();
    for (int what = 0; what <= 5; what++) due("count(" + what + ") of nothing", x.count(what), 0);
    times(10, () -> x.card(0, 255));
    times(20, () -> x.pick(9));
    times(6, () -> x.law(0, 1));
    times(30, () -> x.feed(0, 4));
    int[] want = {10, 6, 20, 80, 120, 6};
    for (int what = 0; what <= 5; what++) due("count(" + what + ") of all", x.count(what), want[what]);
    for (int l = 0; l < 6; l++) x.force(l, false);
    due("no laws in force", x.count(5), 0);
    due("laws", x.count(1), 6);
  }

  @Says(promise = 46, text = "3 EATEN places of all CARDS")
  static void placesOfCardsOutsideTheOrderAreCounted() {
    LoomCards x = new LoomCards();
    x.card(1, 6);
    x.pick(x.card(0, 0x80));
    x.pick(1);
    due("count(3)", x.count(3), 3);
  }

  @Says(promise = 46, text = "BEYOND: another what.")
  static void countTakesWhatFrom0To5() {
    LoomCards x = new LoomCards();
    takes("what", 0, 5, v -> x.count(v));
  }

  // ---- 47: status

  @Says(promise = 47, text = "which -1: all, 0 to 6: BEYOND to SIZE")
  static void eachFindingIsCountedAtItsPlace() {
    LoomCards x = new LoomCards();
    x.sheet(1, 8, 1);
    x.sheet(2, 16, 1);
    x.law(EVEN, 1);
    for (int n = 1; n <= 3; n++) {
      int[] findings = {x.of(0, 0), 0, x.as(0, LONG), x.drop(), 0, x.draw(0), x.sheet(0, 8, -1)};
      for (int which = 0; which <= 6; which++) {
        if (findings[which] != 0) due("a finding", findings[which], BEYOND - which);
        due("status(" + which + ")", x.status(which), findings[which] == 0 ? 0 : n);
      }
      due("status(-1)", x.status(-1), 5 * n);
    }
    times(10, () -> x.card(0, 0));
    x.card(0, 0);
    due("FULL", x.status(1), 1);
    x.sure(0, 0);
    due("STATE", x.status(4), 1);
    due("status(-1)", x.status(-1), 17);
  }

  @Says(promise = 47, text = "BEYOND (counted from then on): another one.")
  static void statusTakesFromMinus1To6() {
    LoomCards x = new LoomCards();
    takes("which", -1, 6, v -> x.status(v));
  }

  @Says(promise = 47, text = "BEYOND (counted from then on): another one.")
  static void aRefusedStatusIsCountedItself() {
    LoomCards x = new LoomCards();
    due("status(7)", x.status(7), BEYOND);
    due("status(0)", x.status(0), 1);
    due("status(-2)", x.status(-2), BEYOND);
    due("status(0)", x.status(0), 2);
    due("status(-1)", x.status(-1), 2);
  }

  @Says(promise = 47, text = "(undo() takes none back)")
  static void undoTakesNoFindingBack() {
    LoomCards x = new LoomCards();
    x.image();
    x.drop();
    x.undo();
    due("status(-1)", x.status(-1), 1);
    x.tear();
    x.undo();
    due("status(3)", x.status(3), 2);
    x.wipe();
    x.loom();
    due("status(-1)", x.status(-1), 2);
  }

  @Says(promise = 47, text = "How many acts answered a finding ever")
  static void answersBelow0ThatAreNoFindingsAreNotCounted() {
    LoomCards x = new LoomCards();
    x.sheet(0, 64, 1);
    x.write(0, 0, FULL);
    due("a number", x.write(0, 0, -5), FULL);
    due("a number", x.write(0, 0, 0), -5);
    due("a fault", x.loom(), -1);
    for (int which = -1; which <= 6; which++) due("status(" + which + ")", x.status(which), 0);
  }
}
