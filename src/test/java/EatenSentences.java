/** Promises 20 to 23: the eaten places. */
final class EatenSentences extends Sentences {

  /** One card for each of these sets, eaten there and without holes, each picked once. */
  private static LoomCards eaten(int... sets) {
    LoomCards x = new LoomCards();
    for (int set : sets) x.pick(x.card(0, set));
    return x;
  }

  /** So few threads may be up that no way is left: one card has holes enough already. */
  private static LoomCards withoutWays(int... sets) {
    LoomCards x = eaten(sets);
    x.pick(x.card(3, 0));
    x.law(LAW, 3);
    return x;
  }

  // ---- 20: ways

  @Says(promise = 20, text = "How many WAYS there are.")
  static void thereIsOneWayWithoutPlaces() {
    due("no cards", new LoomCards().ways(), 1);
    due("no rows", cards(1).ways(), 1);
    due("nothing eaten", woven(1, 2).ways(), 1);
    LoomCards x = cards();
    x.card(0, 255);
    due("eaten, not in the order", x.ways(), 1);
  }

  @Says(promise = 20, text = "How many WAYS there are.")
  static void eachPlaceDoublesTheWaysUpTo12Places() {
    for (int n = 0; n <= 12; n++) {
      LoomCards x = eaten((1 << Math.min(n, 8)) - 1, (1 << Math.max(n - 8, 0)) - 1);
      due(n + " places", x.ways(), 1 << n);
    }
  }

  @Says(promise = 20, text = "How many WAYS there are.")
  static void thereMayBeNoWays() {
    due("with places", withoutWays(0x81).ways(), 0);
    due("without places", withoutWays().ways(), 0);
    due("12 places", withoutWays(0xff, 0x0f).ways(), 0);
  }

  @Says(promise = 20, text = "How many WAYS there are.")
  static void waysAskOnlyLawsInForce() {
    LoomCards x = withoutWays(0x81);
    x.force(0, false);
    due("ways()", x.ways(), 4);
    x.force(0, true);
    due("ways()", x.ways(), 0);
  }

  @Says(promise = 20, text = "How many WAYS there are.")
  static void waysChangeNothing() {
    LoomCards x = eaten(0x81, 0x18);
    x.ways();
    due("eaten", x.of(0, 1), 0x81);
    due("eaten", x.of(1, 1), 0x18);
    due("holes", x.of(0, 0) + x.of(1, 0), 0);
    due("row(0)", x.row(0), 0);
  }

  @Says(promise = 20, text = "SIZE: there are more than 12 places.")
  static void twelvePlacesAreTakenAnd13AreNot() {
    due("12", eaten(0xff, 0x0f).ways(), 4096);
    due("13", eaten(0xff, 0x1f).ways(), SIZE);
    due("13, the last ones", eaten(0x1f, 0xff).ways(), SIZE);
    due("12 on as many cards", eaten(1, 2, 4, 8, 16, 32, 64, 128, 3, 3).ways(), 4096);
    due("13 on ten cards", eaten(1, 2, 4, 8, 16, 32, 64, 128, 3, 7).ways(), SIZE);
    due("80", eaten(255, 255, 255, 255, 255, 255, 255, 255, 255, 255).ways(), SIZE);
  }

  @Says(promise = 20, text = "SIZE: there are more than 12 places.")
  static void placesOfCardsOutsideTheOrderAreNotCounted() {
    LoomCards x = eaten(0xff, 0x0f);
    x.card(0, 0xff);
    due("a card that isn't in it", x.ways(), 4096);
    x.pick(2);
    due("now it is", x.ways(), SIZE);
    x.drop();
    due("now it isn't", x.ways(), 4096);
  }

  @Says(promise = 20, text = "SIZE: there are more than 12 places.")
  static void aCardThatStandsTwiceHasItsPlacesOnce() {
    LoomCards x = eaten(0xff);
    times(19, () -> x.pick(0));
    due("a card 20 times", x.ways(), 256);
  }

  // ---- 21: sure

  @Says(promise = 21, text = "What a CARD that stands in THE ORDER has at a HOOK in all WAYS: 0, 1; 2: now this, now that.")
  static void sureTells0And1And2() {
    LoomCards x = cards();
    x.pick(x.card(0x01, 0x0e));
    for (int t = 0; t < 16; t++) x.tie(t, 7);
    x.tie(0, 0);
    x.tie(1, 1);
    due("a hole that is there", x.sure(0, 0), 1);
    due("none that is there", x.sure(0, 7), 0);
    due("now this, now that", x.sure(0, 1), 2);
    x.law(EVEN, 2);
    due("a hole in all ways", x.sure(0, 1), 1);
    due("it moves no thread", x.sure(0, 2), 2);
    x.tie(2, 2);
    x.punch(0, 1, 1);
    due("none in all ways", x.sure(0, 2), 0);
    due("still eaten", x.at(0, 2), 2);
  }

  @Says(promise = 21, text = "What a CARD that stands in THE ORDER has at a HOOK in all WAYS")
  static void sureTellsOfTheCardThatIsAskedFor() {
    LoomCards x = new LoomCards();
    x.pick(x.card(0x80, 0x01));
    x.pick(x.card(0x00, 0x01));
    x.pick(x.card(0x00, 0x81));
    x.law(LAW, 2);
    due("hook 0 of card 0", x.sure(0, 0), 0);
    due("hook 0 of card 1", x.sure(1, 0), 2);
    due("hook 7 of card 0", x.sure(0, 7), 1);
    due("hook 7 of card 1", x.sure(1, 7), 0);
    due("hook 7 of card 2", x.sure(2, 7), 2);
  }

  @Says(promise = 21, text = "in all WAYS: 0, 1; 2: now this, now that")
  static void sureWithoutPlacesTellsWhatIsThere() {
    LoomCards x = woven(0x81);
    for (int hook = 0; hook < 8; hook++) due("sure(0, " + hook + ")", x.sure(0, hook), x.at(0, hook));
  }

  @Says(promise = 21, text = "BEYOND: no such CARD, HOOK.")
  static void sureTakesHooks0To7() {
    LoomCards x = eaten(0x81);
    takes("hook", 0, 7, v -> x.sure(0, v));
  }

  @Says(promise = 21, text = "BEYOND: no such CARD, HOOK.")
  static void sureTakesCardsThatAreThere() {
    due("no cards", new LoomCards().sure(0, 0), BEYOND);
    LoomCards x = tenCards();
    for (int c = 0; c < 10; c++) x.pick(c);
    takes("card", 0, 9, v -> x.sure(v, 0));
  }

  @Says(promise = 21, text = "STATE: it isn't in THE ORDER.")
  static void sureTakesCardsInTheOrder() {
    LoomCards x = cards(1, 1);
    due("no rows", x.sure(0, 0), STATE);
    x.pick(0);
    due("in it", x.sure(0, 0), 1);
    due("not in it", x.sure(1, 0), STATE);
    x.drop();
    due("not any more", x.sure(0, 0), STATE);
    due("status(4)", x.status(4), 3);
  }

  @Says(promise = 21, text = "SIZE.")
  static void sureTakes12Places() {
    due("12", eaten(0xff, 0x0f).sure(1, 0), 2);
    due("13", eaten(0xff, 0x1f).sure(1, 0), SIZE);
    due("13, at a hook that isn't eaten", eaten(0xff, 0x1f).sure(1, 7), SIZE);
  }

  @Says(promise = 21, text = "NONE: there are no WAYS.")
  static void nothingIsSureWithoutWays() {
    LoomCards x = withoutWays(0x81);
    due("a place", x.sure(0, 0), NONE);
    due("what is there", x.sure(0, 1), NONE);
    due("a hole that is there", x.sure(1, 0), NONE);
    due("no places", withoutWays().sure(0, 0), NONE);
  }

  @Says(promise = 21, text = "BEYOND: no such CARD, HOOK. STATE: it isn't in THE ORDER.")
  static void sureAsksBeyondAheadOfAll() {
    LoomCards x = withoutWays(0xff, 0x1f);
    x.card(0, 0);
    due("hook and STATE", x.sure(3, 8), BEYOND);
    due("hook and SIZE", x.sure(0, -1), BEYOND);
    due("card and SIZE", x.sure(4, 0), BEYOND);
    due("hook and NONE", withoutWays(1).sure(0, 8), BEYOND);
    due("status(0)", x.status(0), 3);
  }

  @Says(promise = 21, text = "STATE: it isn't in THE ORDER. SIZE.")
  static void sureAsksStateAheadOfSizeAndNone() {
    LoomCards x = eaten(0xff, 0x1f);
    x.card(0, 0);
    due("STATE and SIZE", x.sure(2, 0), STATE);
    LoomCards y = withoutWays(0x81);
    y.card(0, 0);
    due("STATE and NONE", y.sure(2, 0), STATE);
  }

  @Says(promise = 21, text = "SIZE. NONE: there are no WAYS.")
  static void sureAsksSizeAheadOfNone() {
    due("SIZE and NONE", withoutWays(0xff, 0x1f).sure(0, 0), SIZE);
  }

  // ---- 22: fill

  @Says(promise = 22, text = "The i-th of the WAYS (from 0) becomes so, place by place: how many places.")
  static void fillTakesTheFirstAndTheLastWay() {
    LoomCards x = eaten(0xff, 0x0f);
    x.image();
    due("the first", x.fill(0), 12);
    due("holes", x.of(0, 0) + x.of(1, 0), 0);
    due("eaten", x.count(3), 0);
    x.undo();
    due("the last", x.fill(4095), 12);
    due("holes", x.of(0, 0), 0xff);
    due("holes", x.of(1, 0), 0x0f);
    due("eaten", x.count(3), 0);
    due("one way is left", x.ways(), 1);
  }

  @Says(promise = 22, text = "how many places")
  static void fillWithoutPlacesFillsNone() {
    due("no cards", new LoomCards().fill(0), 0);
    LoomCards x = woven(0x5a);
    x.card(0, 0xff);
    due("nothing eaten in the order", x.fill(0), 0);
    due("it stays", x.of(0, 0), 0x5a);
    due("what isn't in the order stays", x.of(1, 1), 0xff);
  }

  @Says(promise = 22, text = "The i-th of the WAYS (from 0) becomes so")
  static void fillLeavesOtherHooksAsTheyWere() {
    LoomCards x = new LoomCards();
    x.pick(x.card(0x21, 0x84));
    due("fill(2)", x.fill(2), 2);
    due("holes", x.of(0, 0), 0xa1);
    due("eaten", x.of(0, 1), 0);
  }

  @Says(promise = 22, text = "BEYOND: i below 0.")
  static void fillTakesIFrom0On() {
    LoomCards x = eaten(0x81);
    due("-1", x.fill(-1), BEYOND);
    due("the least", x.fill(MIN), BEYOND);
    due("eaten", x.count(3), 2);
    due("0", x.fill(0), 2);
  }

  @Says(promise = 22, text = "SIZE.")
  static void fillTakes12Places() {
    LoomCards x = eaten(0xff, 0x1f);
    due("13", x.fill(0), SIZE);
    due("eaten", x.count(3), 13);
    x.punch(1, 4, 0);
    due("12", x.fill(0), 12);
  }

  @Says(promise = 22, text = "NONE: there are not so many.")
  static void fillTakesIUpToTheLastWay() {
    LoomCards x = eaten(0x0f);
    x.law(LAW, 2);
    due("ways()", x.ways(), 5);
    for (int i : new int[] {5, 6, 15, 16, MAX}) due("fill(" + i + ")", x.fill(i), NONE);
    due("eaten", x.of(0, 1), 0x0f);
    due("fill(4)", x.fill(4), 4);
    due("holes", x.of(0, 0), 0x08);
    due("without places", new LoomCards().fill(1), NONE);
    due("4096", eaten(0xff, 0x0f).fill(4096), NONE);
  }

  @Says(promise = 22, text = "NONE: there are not so many.")
  static void fillHasNothingWithoutWays() {
    LoomCards x = withoutWays(0x81);
    due("fill(0)", x.fill(0), NONE);
    due("eaten", x.count(3), 2);
    due("without places", withoutWays().fill(0), NONE);
  }

  @Says(promise = 22, text = "BEYOND: i below 0. SIZE. NONE: there are not so many.")
  static void fillAsksBeyondThenSizeThenNone() {
    due("BEYOND and SIZE", eaten(0xff, 0x1f).fill(-1), BEYOND);
    due("BEYOND and NONE", withoutWays(0x81).fill(-1), BEYOND);
    due("SIZE and NONE", eaten(0xff, 0x1f).fill(MAX), SIZE);
    due("SIZE and NONE", withoutWays(0xff, 0x1f).fill(0), SIZE);
  }

  // ---- 23: ask

  @Says(promise = 23, text = "leaves fewest WAYS at the worse of 0 and 1")
  static void askGoesByTheWorseOfBoth() {
    LoomCards x = eaten(0x07);
    for (int t = 0; t < 16; t++) x.tie(t, 7);
    for (int t = 0; t < 3; t++) x.tie(t, t);
    x.tie(3, 0);
    x.law(LAW, 2);
    // Hook 0 moves two threads, 1 and 2 one each: none, 0 alone, 1, 2, 1 and 2 are ways.
    // Hook 0 leaves 4 of them at worst, 1 and 2 leave 3.
    due("ask()", x.ask(), 1);
    x.law(LAW, 1);
    // None, 1, 2: hook 0 leaves all 3.
    due("ask()", x.ask(), 1);
    x.set(1, 16);
    x.set(0, 16);
    due("all tell as much", x.ask(), 0);
  }

  @Says(promise = 23, text = "The EATEN place (of the CARDS in THE ORDER)")
  static void askPassesOverCardsOutsideTheOrder() {
    LoomCards x = new LoomCards();
    x.card(0, 255);
    x.card(0, 255);
    x.pick(x.card(0, 0x40));
    due("ask()", x.ask(), 26);
  }

  @Says(promise = 23, text = "as 10 times the CARD and the HOOK")
  static void askTellsTheFirstAndTheLastPlaceOfAll() {
    due("card 0, hook 0", eaten(1).ask(), 0);
    LoomCards x = tenCards();
    x.punch(9, 7, 2);
    x.pick(9);
    due("card 9, hook 7", x.ask(), 97);
  }

  @Says(promise = 23, text = "of several the least")
  static void askTellsTheLeastOfSeveral() {
    LoomCards x = tenCards();
    x.punch(4, 6, 2);
    x.punch(4, 3, 2);
    x.punch(8, 0, 2);
    x.pick(8);
    x.pick(4);
    due("by cards, not as picked", x.ask(), 43);
  }

  @Says(promise = 23, text = "of several the least")
  static void askTellsTheLeastPlaceWithoutWays() {
    due("ask()", withoutWays(0x84).ask(), 2);
  }

  @Says(promise = 23, text = "SIZE.")
  static void askTakes12Places() {
    due("12", eaten(0xff, 0x0f).ask(), 0);
    due("13", eaten(0xff, 0x1f).ask(), SIZE);
    due("13 without ways", withoutWays(0xff, 0x1f).ask(), SIZE);
  }

  @Says(promise = 23, text = "NONE: there is no place.")
  static void askHasNothingWithoutPlaces() {
    due("no cards", new LoomCards().ask(), NONE);
    due("nothing eaten", woven(1).ask(), NONE);
    LoomCards x = new LoomCards();
    x.card(0, 0xff);
    due("not in the order", x.ask(), NONE);
    due("no ways either", withoutWays().ask(), NONE);
  }
}
