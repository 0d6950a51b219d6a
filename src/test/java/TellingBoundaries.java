/** Boundaries of promises 1 to 11: doors, the round, the horse, the crate, the cart, events. */
final class TellingBoundaries extends Boundaries {
  private static final int[] MOST_BYTES = {12, 12, 24};
  private static final char[] LOWEST = {'0', '0', 'a'};
  private static final char[] HIGHEST = {'5', '5', 'l'};

  // ---- promise 1: a new object

  static void promise01_newObject_noTextIsTold() {
    MilkHorse x = new MilkHorse();
    is("count(1)", x.count(1), 0);
    for (int text = 0; text < 3; text++) {
      is("fault", x.fault(text), NONE);
      is("undo", x.undo(text), NOT);
      is("wipe", x.wipe(text), 0);
    }
  }

  static void promise01_newObject_noDoorWantsAnyOrHasEmpties() {
    MilkHorse x = new MilkHorse();
    for (int door = 0; door < 12; door++) {
      is("told 0", x.told(door, 0), 0);
      is("told 1", x.told(door, 1), 0);
    }
  }

  static void promise01_newObject_roundHasNoDoor() {
    MilkHorse x = new MilkHorse();
    is("count(0)", x.count(0), 0);
    is("round(0)", x.round(0), NONE);
    is("round(23)", x.round(23), NONE);
  }

  static void promise01_newObject_horseIs1() {
    is("count(4)", new MilkHorse().count(4), 1);
    is("set", new MilkHorse().set(HORSE, 0), 1);
  }

  static void promise01_newObject_roomIs4() {
    is("count(5)", new MilkHorse().count(5), 4);
    is("set", new MilkHorse().set(ROOM, 1), 4);
  }

  static void promise01_newObject_cartHas40() {
    is("count(6)", new MilkHorse().count(6), 40);
    is("set", new MilkHorse().set(CART, 0), 40);
    is("sum(4)", new MilkHorse().sum(4), 40);
  }

  static void promise01_newObject_hasNoEvents() {
    is("count(2)", new MilkHorse().count(2), 0);
    is("back", new MilkHorse().back(), NOT);
  }

  static void promise01_newObject_allFourSheetsAreLost() {
    for (int s = 0; s < 4; s++) is("lose", new MilkHorse().lose(s), NULL);
  }

  static void promise01_newObject_nothingIsSeenAndNothingFound() {
    is("count(7)", new MilkHorse().count(7), 0);
    is("forget", new MilkHorse().forget(), 0);
    is("count(8)", new MilkHorse().count(8), 0);
  }

  static void promise01_newObject_theManRestsFromMinute0On() {
    MilkHorse x = new MilkHorse();
    is("over", x.over(), 0);
    for (int what = 0; what < 5; what++) {
      is("at 0", x.at(0, what), 0);
      is("at 47", x.at(47, what), 0);
    }
  }

  static void promise01_constants_areMinus1ToMinus4() {
    is("NONE", MilkHorse.NONE, -1);
    is("BAD", MilkHorse.BAD, -2);
    is("NOT", MilkHorse.NOT, -3);
    is("FULL", MilkHorse.FULL, -4);
  }

  static void promise01_twoObjects_shareNothing() {
    MilkHorse one = new MilkHorse();
    MilkHorse other = busy();
    is("digest", one.digest(), new MilkHorse().digest());
    is("lose", one.lose(0), NULL);
    is("digest of the other", other.digest(), busy().digest());
  }

  static void promise01_call512_stillAnswersAsDue() {
    MilkHorse x = new MilkHorse();
    for (int i = 0; i < 255; i++) {
      is("type", x.type(2, 'c'), 1);
      is("undo", x.undo(2), 0);
    }
    is("call 511", x.type(2, 'c'), 1);
    is("call 512", x.digest(), street("", "", "c").digest());
  }

  // ---- promise 2: type

  static void promise02_textBelow0OrAbove2_isBad() {
    badOutside("type", 0, 2, (x, v) -> x.type(v, '1'));
  }

  static void promise02_byteBelow0OrAbove255_isBad() {
    for (int text = 0; text < 3; text++) {
      int t = text;
      badOutside("type to " + t, 0, 255, (x, v) -> x.type(t, v));
    }
  }

  static void promise02_byte0_comes() {
    for (int text = 0; text < 3; text++) is("type", new MilkHorse().type(text, 0), 1);
  }

  static void promise02_byte255_comes() {
    for (int text = 0; text < 3; text++) is("type", new MilkHorse().type(text, 255), 1);
  }

  static void promise02_emptyText_theFirstByteMakesOne() {
    for (int text = 0; text < 3; text++) is("type", new MilkHorse().type(text, LOWEST[text]), 1);
  }

  static void promise02_wants_twelveComeTheThirteenthIsFull() {
    comesUpToItsMost(0);
  }

  static void promise02_empties_twelveComeTheThirteenthIsFull() {
    comesUpToItsMost(1);
  }

  static void promise02_round_twentyFourComeTheNextIsFull() {
    comesUpToItsMost(2);
  }

  private static void comesUpToItsMost(int text) {
    MilkHorse x = new MilkHorse();
    for (int i = 1; i <= MOST_BYTES[text]; i++) is("type " + i, x.type(text, HIGHEST[text]), i);
    is("type too many", x.type(text, HIGHEST[text]), FULL);
    is("bytes", x.count(1), MOST_BYTES[text]);
  }

  static void promise02_fullText_refusedCallChangesNothing() {
    for (int text = 0; text < 3; text++) {
      int t = text;
      refused("type", () -> full(t, HIGHEST[t]), x -> x.type(t, LOWEST[t]), FULL);
      refused("type a wrong byte", () -> full(t, HIGHEST[t]), x -> x.type(t, 0), FULL);
    }
  }

  static void promise02_fullText_badByteIsBadAheadOfFull() {
    for (int text = 0; text < 3; text++) {
      int t = text;
      refused("type -1", () -> full(t, HIGHEST[t]), x -> x.type(t, -1), BAD);
      refused("type 256", () -> full(t, HIGHEST[t]), x -> x.type(t, 256), BAD);
    }
  }

  static void promise02_fullOfFaultyBytes_isFullToo() {
    for (int text = 0; text < 3; text++) {
      int t = text;
      refused("type", () -> full(t, 'z'), x -> x.type(t, LOWEST[t]), FULL);
    }
  }

  static void promise02_fullText_leavesRoomInTheOthers() {
    for (int text = 0; text < 3; text++) {
      MilkHorse x = full(text, LOWEST[text]);
      for (int other = 0; other < 3; other++) {
        if (other != text) is("type", x.type(other, LOWEST[other]), 1);
      }
    }
  }

  static void promise02_fullText_hasRoomAgainBehindUndoAndWipe() {
    for (int text = 0; text < 3; text++) {
      MilkHorse x = full(text, LOWEST[text]);
      x.undo(text);
      is("type behind undo", x.type(text, LOWEST[text]), MOST_BYTES[text]);
      is("type more", x.type(text, LOWEST[text]), FULL);
      x.wipe(text);
      is("type behind wipe", x.type(text, LOWEST[text]), 1);
    }
  }

  static void promise02_faultyByte_countsLikeAnyOther() {
    MilkHorse x = street("1", "", "");
    is("type", x.type(0, 'x'), 2);
    is("type behind it", x.type(0, '1'), 3);
  }

  static void promise02_byteBehindAllAnswers_isHeard() {
    heard("type to wants", Boundaries::busy, x -> x.type(0, 'x'));
    heard("type to empties", () -> dogged("a"), x -> x.type(1, '5'));
    heard("type to the round", () -> dogged("a"), x -> x.type(2, 'l'));
  }

  /** A long morning with a dog in its last minute, and a cat. */
  private static MilkHorse dogged(String round) {
    MilkHorse x = longMorning(round);
    x.event(DOG, 47, 11);
    x.event(CAT, 40, 0);
    return x;
  }

  private static MilkHorse full(int text, int b) {
    MilkHorse x = new MilkHorse();
    for (int i = 0; i < MOST_BYTES[text]; i++) x.type(text, b);
    return x;
  }

  // ---- promise 3: wipe

  static void promise03_textBelow0OrAbove2_isBad() {
    badOutside("wipe", 0, 2, (x, v) -> x.wipe(v));
  }

  static void promise03_emptyText_had0() {
    for (int text = 0; text < 3; text++) is("wipe", new MilkHorse().wipe(text), 0);
  }

  static void promise03_wipedText_hasNoneTheSecondTime() {
    MilkHorse x = busy();
    is("wipe", x.wipe(0), 3);
    is("wipe again", x.wipe(0), 0);
  }

  static void promise03_fullText_had12_12_24() {
    for (int text = 0; text < 3; text++) {
      is("wipe", full(text, LOWEST[text]).wipe(text), MOST_BYTES[text]);
      is("wipe of faulty bytes", full(text, 255).wipe(text), MOST_BYTES[text]);
    }
  }

  static void promise03_fullText_isLikeAnEmptyOneBehindIt() {
    for (int text = 0; text < 3; text++) {
      MilkHorse x = full(text, HIGHEST[text]);
      x.wipe(text);
      is("digest", x.digest(), new MilkHorse().digest());
      is("undo", x.undo(text), NOT);
    }
  }

  static void promise03_faultyText_isWellBehindIt() {
    MilkHorse x = street("x", "y", "z");
    for (int text = 0; text < 3; text++) {
      is("wipe", x.wipe(text), 1);
      is("fault", x.fault(text), NONE);
    }
  }

  static void promise03_otherTexts_stay() {
    MilkHorse x = street("213", "12", "cab");
    x.wipe(1);
    is("digest", x.digest(), street("213", "", "cab").digest());
    x.wipe(0);
    is("digest", x.digest(), street("", "", "cab").digest());
  }

  static void promise03_wipeBehindAllAnswers_isHeard() {
    heard("wipe of wants", () -> dogged("aal"), x -> x.wipe(0));
    heard("wipe of the round", () -> dogged("aal"), x -> x.wipe(2));
    heard("wipe of empties", Boundaries::busy, x -> x.wipe(1));
  }

  // ---- promise 4: undo

  static void promise04_textBelow0OrAbove2_isBad() {
    badOutside("undo", 0, 2, (x, v) -> x.undo(v));
  }

  static void promise04_emptyText_isNot() {
    for (int text = 0; text < 3; text++) {
      int t = text;
      refused("undo", MilkHorse::new, x -> x.undo(t), NOT);
    }
  }

  static void promise04_emptyTextBesideFullOnes_isNot() {
    refused("undo", () -> street(times(12, "1"), "", times(24, "b")), x -> x.undo(1), NOT);
  }

  static void promise04_oneByte_leaves0ThenNot() {
    for (int text = 0; text < 3; text++) {
      MilkHorse x = new MilkHorse();
      x.type(text, LOWEST[text]);
      is("undo", x.undo(text), 0);
      is("undo again", x.undo(text), NOT);
    }
  }

  static void promise04_fullText_leaves11_11_23() {
    for (int text = 0; text < 3; text++) {
      is("undo", full(text, LOWEST[text]).undo(text), MOST_BYTES[text] - 1);
    }
  }

  static void promise04_wipedText_isNot() {
    MilkHorse x = busy();
    x.wipe(2);
    is("undo", x.undo(2), NOT);
  }

  static void promise04_lastByte_isTheOneUndone() {
    MilkHorse x = street("12", "34", "ab");
    for (int text = 0; text < 3; text++) is("undo", x.undo(text), 1);
    is("digest", x.digest(), street("1", "3", "a").digest());
  }

  static void promise04_faultyLastByte_undoneTheTextIsWell() {
    MilkHorse x = street("13x", "", "");
    is("undo", x.undo(0), 2);
    is("fault", x.fault(0), NONE);
    is("told", x.told(1, 0), 3);
  }

  static void promise04_fullTextAfterFullRefusal_undoesTheLastThatCame() {
    MilkHorse x = street(times(11, "1") + "5", "", "");
    x.type(0, '3');
    is("undo", x.undo(0), 11);
    is("told(11)", x.told(11, 0), 0);
    is("told(10)", x.told(10, 0), 1);
  }

  static void promise04_undoBehindAllAnswers_isHeard() {
    heard("undo of wants", () -> dogged("aal"), x -> x.undo(0));
    heard("undo of the round", () -> dogged("aal"), x -> x.undo(2));
    heard("undo of empties", Boundaries::busy, x -> x.undo(1));
  }

  // ---- promise 5: fault

  static void promise05_textBelow0OrAbove2_isBad() {
    badOutside("fault", 0, 2, (x, v) -> x.fault(v));
  }

  static void promise05_emptyText_isWell() {
    for (int text = 0; text < 3; text++) is("fault", new MilkHorse().fault(text), NONE);
  }

  static void promise05_fullText_isWellByLowestAndHighestSigns() {
    for (int text = 0; text < 3; text++) {
      is("fault", full(text, LOWEST[text]).fault(text), NONE);
      is("fault", full(text, HIGHEST[text]).fault(text), NONE);
    }
  }

  static void promise05_signBelowTheLowest_isTheFault() {
    for (int text = 0; text < 3; text++) is("fault", faultOf(text, LOWEST[text] - 1), 0);
  }

  static void promise05_signAboveTheHighest_isTheFault() {
    for (int text = 0; text < 3; text++) is("fault", faultOf(text, HIGHEST[text] + 1), 0);
  }

  static void promise05_byte0And255_areFaults() {
    for (int text = 0; text < 3; text++) {
      is("fault of 0", faultOf(text, 0), 0);
      is("fault of 255", faultOf(text, 255), 0);
    }
  }

  static void promise05_greatLetters_areFaultsInTheRound() {
    is("fault of A", faultOf(2, 'A'), 0);
    is("fault of L", faultOf(2, 'L'), 0);
  }

  static void promise05_signOfAnotherText_isAFault() {
    is("fault of a in wants", faultOf(0, 'a'), 0);
    is("fault of a in empties", faultOf(1, 'a'), 0);
    is("fault of 0 in the round", faultOf(2, '0'), 0);
  }

  private static int faultOf(int text, int b) {
    MilkHorse x = new MilkHorse();
    x.type(text, b);
    return x.fault(text);
  }

  static void promise05_twoFaults_theFirstIsTold() {
    is("wants", street("12x3y", "", "").fault(0), 2);
    is("empties", street("", "1y2x", "").fault(1), 1);
    is("round", street("", "", "abc1d2").fault(2), 3);
  }

  static void promise05_faultAtTheLastPlace_is11_11_23() {
    for (int text = 0; text < 3; text++) {
      MilkHorse x = full(text, LOWEST[text]);
      x.undo(text);
      x.type(text, 'z');
      is("fault", x.fault(text), MOST_BYTES[text] - 1);
    }
  }

  static void promise05_faultOfOneText_isNoneOfTheOthers() {
    MilkHorse x = street("213", "x", "cab");
    is("wants", x.fault(0), NONE);
    is("empties", x.fault(1), 0);
    is("round", x.fault(2), NONE);
  }

  static void promise05_byteThatFoundNoRoom_isNoFault() {
    MilkHorse x = full(0, '1');
    x.type(0, 'x');
    is("fault", x.fault(0), NONE);
  }

  // ---- promise 6: told

  static void promise06_doorBelow0OrAbove11_isBad() {
    badOutside("told 0", 0, 11, (x, v) -> x.told(v, 0));
    badOutside("told 1", 0, 11, (x, v) -> x.told(v, 1));
  }

  static void promise06_whatBelow0OrAbove1_isBad() {
    badOutside("told", 0, 1, (x, v) -> x.told(0, v));
  }

  static void promise06_doorsBehindTheText_have0() {
    MilkHorse x = street("35", "4", "");
    is("door 1 wants", x.told(1, 0), 5);
    is("door 2 wants", x.told(2, 0), 0);
    is("door 11 wants", x.told(11, 0), 0);
    is("door 0 has", x.told(0, 1), 4);
    is("door 1 has", x.told(1, 1), 0);
    is("door 11 has", x.told(11, 1), 0);
  }

  static void promise06_fullText_reachesDoor11() {
    MilkHorse x = street(times(11, "0") + "5", times(11, "5") + "1", "");
    is("door 11 wants", x.told(11, 0), 5);
    is("door 10 wants", x.told(10, 0), 0);
    is("door 11 has", x.told(11, 1), 1);
    is("door 10 has", x.told(10, 1), 5);
  }

  static void promise06_figures0And5_areThemselves() {
    MilkHorse x = street("05", "50", "");
    is("0", x.told(0, 0), 0);
    is("5", x.told(1, 0), 5);
    is("5", x.told(0, 1), 5);
    is("0", x.told(1, 1), 0);
  }

  static void promise06_faultAtTheEnd_makesAllDoors0() {
    MilkHorse x = street(times(11, "4") + "6", times(11, "3") + "/", "");
    for (int door = 0; door < 12; door++) {
      is("wants", x.told(door, 0), 0);
      is("empties", x.told(door, 1), 0);
    }
  }

  static void promise06_faultInOneText_leavesTheOther() {
    is("empties", street("4x", "3", "").told(0, 1), 3);
    is("wants", street("4", "3x", "").told(0, 0), 4);
  }

  static void promise06_bottlesLaidDown_leaveWhatWasTold() {
    MilkHorse x = street("2", "3", "a");
    is("laid", x.door(47, 0, 0), 2);
    is("wants", x.told(0, 0), 2);
    is("empties", x.told(0, 1), 3);
  }

  // ---- promise 7: round

  static void promise07_placeBelow0OrAbove23_isBad() {
    badOutside("round", 0, 23, (x, v) -> x.round(v));
  }

  static void promise07_emptyRound_hasNone() {
    for (int i = 0; i < 24; i++) is("round", street("1", "1", "").round(i), NONE);
  }

  static void promise07_placeBehindTheLast_isNone() {
    MilkHorse x = street("", "", "cab");
    is("last", x.round(2), 1);
    is("behind it", x.round(3), NONE);
    is("place 23", x.round(23), NONE);
  }

  static void promise07_fullRound_reachesPlace23() {
    MilkHorse x = street("", "", times(23, "a") + "l");
    is("place 22", x.round(22), 0);
    is("place 23", x.round(23), 11);
  }

  static void promise07_lettersAAndL_areDoors0And11() {
    MilkHorse x = street("", "", "al");
    is("a", x.round(0), 0);
    is("l", x.round(1), 11);
  }

  static void promise07_faultAtTheEnd_leavesNoneAtAnyPlace() {
    MilkHorse x = street("", "", times(23, "b") + "m");
    for (int i = 0; i < 24; i++) is("round", x.round(i), NONE);
  }

  // ---- promise 8: set

  static void promise08_whatBelow0OrAbove2_isBad() {
    badOutside("set", 0, 2, (x, v) -> x.set(v, 1));
  }

  static void promise08_horseBelow0OrAbove2_isBad() {
    badOutside("set", 0, 2, (x, v) -> x.set(HORSE, v));
  }

  static void promise08_roomBelow1OrAbove8_isBad() {
    badOutside("set", 1, 8, (x, v) -> x.set(ROOM, v));
  }

  static void promise08_cartBelow0OrAbove60_isBad() {
    badOutside("set", 0, 60, (x, v) -> x.set(CART, v));
  }

  static void promise08_horse0And2_areTaken() {
    takesBothEnds(HORSE, 1, 0, 2);
  }

  static void promise08_room1And8_areTaken() {
    takesBothEnds(ROOM, 4, 1, 8);
  }

  static void promise08_cart0And60_areTaken() {
    takesBothEnds(CART, 40, 0, 60);
  }

  private static void takesBothEnds(int what, int first, int least, int most) {
    MilkHorse x = new MilkHorse();
    is("set to the least", x.set(what, least), first);
    is("it is", x.count(4 + what), least);
    is("set to the most", x.set(what, most), least);
    is("it is", x.count(4 + what), most);
    is("set to the same", x.set(what, most), most);
  }

  static void promise08_oneOfThree_leavesTheOthers() {
    MilkHorse x = new MilkHorse();
    x.set(ROOM, 2);
    is("horse", x.count(4), 1);
    is("cart", x.count(6), 40);
    x.set(CART, 2);
    is("horse", x.count(4), 1);
    is("room", x.count(5), 2);
    x.set(HORSE, 0);
    is("room", x.count(5), 2);
    is("cart", x.count(6), 2);
  }

  static void promise08_refusedCall_isNotWhatItWas() {
    MilkHorse x = new MilkHorse();
    is("set", x.set(ROOM, 9), BAD);
    is("set", x.set(ROOM, 8), 4);
  }

  static void promise08_setBehindAllAnswers_isHeard() {
    heard("horse", () -> dogged("aal"), x -> x.set(HORSE, SLOW));
    heard("room", () -> dogged("aal"), x -> x.set(ROOM, 8));
    heard("cart", () -> dogged("aal"), x -> x.set(CART, 0));
  }

  // ---- promise 9: event

  static void promise09_kindBelow0OrAbove2_isBad() {
    badOutside("event", 0, 2, (x, v) -> x.event(v, 0, 0));
  }

  static void promise09_minuteBelow0OrAbove47_isBad() {
    for (int kind = 0; kind < 3; kind++) {
      int k = kind;
      badOutside("event of kind " + k, 0, 47, (x, v) -> x.event(k, v, 0));
    }
  }

  static void promise09_numberBelow0OrAbove11_isBad() {
    badOutside("dog", 0, 11, (x, v) -> x.event(DOG, 0, v));
    badOutside("cat", 0, 11, (x, v) -> x.event(CAT, 0, v));
  }

  static void promise09_numberOfAWhistleBelow0OrAbove11_isBad() {
    badOutside("whistle", 0, 11, (x, v) -> x.event(WHISTLE, 0, v));
  }

  static void promise09_leastAndMostOfEach_come() {
    MilkHorse x = new MilkHorse();
    is("the least", x.event(0, 0, 0), 1);
    is("the most", x.event(2, 47, 11), 2);
    is("a whistle, the least", x.event(1, 0, 0), 3);
    is("a whistle, the most", x.event(1, 47, 11), 4);
  }

  static void promise09_eightCome_theNinthIsFull() {
    MilkHorse x = new MilkHorse();
    for (int i = 1; i <= 8; i++) is("event " + i, x.event(i % 3, i, i), i);
    is("event 9", x.event(1, 1, 1), FULL);
    is("count(2)", x.count(2), 8);
  }

  static void promise09_fullEvents_refusedCallChangesNothing() {
    refused("event", TellingBoundaries::eightCats, x -> x.event(DOG, 0, 0), FULL);
  }

  static void promise09_fullEvents_badIsAheadOfFull() {
    refused("kind 3", TellingBoundaries::eightCats, x -> x.event(3, 0, 0), BAD);
    refused("minute 48", TellingBoundaries::eightCats, x -> x.event(0, 48, 0), BAD);
    refused("number 12", TellingBoundaries::eightCats, x -> x.event(0, 0, 12), BAD);
    refused("number -1", TellingBoundaries::eightCats, x -> x.event(1, 0, -1), BAD);
  }

  static void promise09_fullEvents_haveRoomAgainBehindBack() {
    MilkHorse x = eightCats();
    x.back();
    is("event", x.event(DOG, 0, 0), 8);
    is("event more", x.event(DOG, 0, 0), FULL);
  }

  static void promise09_likeEventTwice_isTwo() {
    MilkHorse x = new MilkHorse();
    is("event", x.event(CAT, 3, 4), 1);
    is("event", x.event(CAT, 3, 4), 2);
  }

  static void promise09_whistle_anyNumberIsAlike() {
    for (int number = 0; number < 12; number++) {
      MilkHorse x = street("", "", "l");
      x.set(HORSE, WAITS);
      x.event(WHISTLE, 4, number);
      is("cart", x.at(4, 1), 3);
    }
  }

  static void promise09_eventBehindAllAnswers_isHeard() {
    heard("cat", () -> dogged("aal"), x -> x.event(CAT, 41, 0));
    heard("dog", Boundaries::longMorning, x -> x.event(DOG, 47, 11));
    heard("whistle", () -> dogged("aal"), x -> x.event(WHISTLE, 30, 0));
  }

  private static MilkHorse eightCats() {
    return withEvents(street("5", "", "a"), 8, CAT, 10, 0);
  }

  // ---- promise 10: back

  static void promise10_noEvent_isNot() {
    refused("back", MilkHorse::new, x -> x.back(), NOT);
    refused("back", () -> street("213", "12", "cab"), x -> x.back(), NOT);
  }

  static void promise10_oneEvent_leaves0ThenNot() {
    MilkHorse x = new MilkHorse();
    x.event(0, 0, 0);
    is("back", x.back(), 0);
    is("back again", x.back(), NOT);
  }

  static void promise10_fullEvents_leave7DownTo0() {
    MilkHorse x = eightCats();
    for (int left = 7; left >= 0; left--) is("back", x.back(), left);
    is("back once more", x.back(), NOT);
  }

  static void promise10_lastEvent_isTheOneUndone() {
    MilkHorse x = street("2", "", "a");
    x.event(CAT, 2, 0);
    x.event(DOG, 1, 0);
    x.back();
    is("the dog is not", x.at(1, 4), SERVED);
    is("the cat is", x.sum(2), 1);
  }

  static void promise10_ninthThatWasRefused_isNotTheOneUndone() {
    MilkHorse x = eightCats();
    x.event(DOG, 1, 0);
    is("back", x.back(), 7);
    is("cats", x.at(1, 4), SERVED);
  }

  static void promise10_undoneEvent_leavesTheMorningAsItWas() {
    MilkHorse x = street("213", "12", "cab");
    long before = x.digest();
    x.event(DOG, 1, 1);
    holds("the dog is felt", x.digest() != before);
    x.back();
    is("digest", x.digest(), before);
  }

  static void promise10_backBehindAllAnswers_isHeard() {
    heard("back", () -> dogged("aal"), x -> x.back());
    heard("back of the dog", () -> withEvents(longMorning(), 1, DOG, 47, 11), x -> x.back());
  }

  // ---- promise 11: read

  static void promise11_sheetBelow0OrAbove3_isBad() {
    badOutside("read", 0, 3, (x, v) -> x.read(v));
  }

  static void promise11_lostSheet_isNull() {
    finds("read", Boundaries::busy, x -> x.read(3), NULL);
    for (int s = 0; s < 4; s++) {
      int sheet = s;
      finds("read", MilkHorse::new, x -> x.read(sheet), NULL);
    }
  }

  static void promise11_lostSheetWithFullEvents_isNull() {
    finds("read", TellingBoundaries::eightCats, x -> x.read(0), NULL);
  }

  static void promise11_sheetOf0To2Items_hasNoWholeOne() {
    for (int n = 0; n <= 2; n++) reads(n, 0);
  }

  static void promise11_sheetOf3To5Items_hasOne() {
    for (int n = 3; n <= 5; n++) reads(n, 1);
  }

  static void promise11_sheetOf23Items_hasSeven() {
    reads(23, 7);
  }

  static void promise11_sheetOf24To60Items_fillsAllEight() {
    reads(24, 8);
    reads(25, 8);
    reads(27, 8);
    reads(60, 8);
  }

  /** A new row holds noughts: a dog at door 0 in minute 0, over and over. */
  private static void reads(int items, int want) {
    MilkHorse x = new MilkHorse();
    x.sheet(0, INTS, items);
    is("read of " + items, x.read(0), want);
    is("count(2)", x.count(2), want);
  }

  static void promise11_eventsFull_none() {
    MilkHorse x = eightCats();
    x.sheet(0, INTS, 3);
    is("read", x.read(0), 0);
    is("digest", x.digest(), eightCats().digest());
  }

  static void promise11_sevenEvents_oneMoreComes() {
    MilkHorse x = eightCats();
    x.back();
    makeRow(x, 0, INTS, 0, 1, 0, 0, 2, 0);
    is("read", x.read(0), 1);
    is("count(2)", x.count(2), 8);
    is("the first of the row came", x.at(1, 4), STOOD);
  }

  static void promise11_wrongKind_endsIt() {
    stopsAt(-1, 5, 5);
    stopsAt(3, 5, 5);
  }

  static void promise11_wrongMinute_endsIt() {
    stopsAt(0, -1, 5);
    stopsAt(0, 48, 5);
  }

  static void promise11_wrongNumber_endsIt() {
    stopsAt(0, 5, -1);
    stopsAt(0, 5, 12);
    stopsAt(1, 5, 12);
  }

  private static void stopsAt(int kind, int minute, int number) {
    MilkHorse x = new MilkHorse();
    makeRow(x, 0, INTS, 2, 47, 11, kind, minute, number, 0, 0, 0);
    is("read", x.read(0), 1);
    is("count(2)", x.count(2), 1);
    makeRow(x, 0, INTS, kind, minute, number, 0, 0, 0);
    is("read with the wrong one ahead", x.read(0), 0);
    is("count(2)", x.count(2), 1);
    is("nothing is found", x.count(8), 0);
  }

  static void promise11_wrongItemsBehindTheLastWholeOne_doNotMatter() {
    MilkHorse x = new MilkHorse();
    makeRow(x, 0, INTS, 0, 1, 0, 99, -99);
    is("read", x.read(0), 1);
  }

  static void promise11_leastAndMostOfEach_come() {
    MilkHorse x = new MilkHorse();
    makeRow(x, 0, INTS, 0, 0, 0, 2, 47, 11);
    is("read", x.read(0), 2);
  }

  static void promise11_eachForm_isRead() {
    for (int form = 0; form < 3; form++) {
      MilkHorse x = street("2", "", "a");
      makeRow(x, form, form, 2, 2, 0, 0, 1, 0);
      is("read", x.read(form), 2);
      is("dog", x.at(1, 4), STOOD);
      is("digest", x.digest(), told(2, 2, 0, 0, 1, 0).digest());
    }
  }

  private static MilkHorse told(int... events) {
    MilkHorse x = street("2", "", "a");
    for (int i = 0; i + 2 < events.length; i += 3) x.event(events[i], events[i + 1], events[i + 2]);
    return x;
  }

  static void promise11_byteThatWrapped_endsIt() {
    MilkHorse x = new MilkHorse();
    makeRow(x, 0, BYTES, 0, 0, 0, 255, 0, 0);
    is("read", x.read(0), 1);
  }

  static void promise11_byteThatWrappedIntoRange_comes() {
    MilkHorse x = new MilkHorse();
    makeRow(x, 0, BYTES, 256, 256, 256);
    is("read", x.read(0), 1);
  }

  static void promise11_eventsThatAre_stayAheadOfThoseRead() {
    MilkHorse x = street("2", "", "a");
    x.event(CAT, 2, 0);
    makeRow(x, 1, SHORTS, 0, 1, 0);
    is("how many came", x.read(1), 1);
    is("count(2)", x.count(2), 2);
    is("digest", x.digest(), told(2, 2, 0, 0, 1, 0).digest());
  }

  static void promise11_twice_comesTwice() {
    MilkHorse x = new MilkHorse();
    x.sheet(0, INTS, 15);
    is("read", x.read(0), 5);
    is("read again", x.read(0), 3);
    is("read once more", x.read(0), 0);
    is("back", x.back(), 7);
  }

  static void promise11_readBehindAllAnswers_isHeard() {
    heard("one", () -> withRow(longMorning(), DOG, 47, 11), x -> x.read(0));
    heard("two", () -> withRow(longMorning(), DOG, 47, 11, CAT, 40, 0), x -> x.read(0));
  }

  private static MilkHorse withRow(MilkHorse x, int... items) {
    makeRow(x, 0, BYTES, items);
    return x;
  }

  static void promise11_sheet_stays() {
    MilkHorse x = busy();
    makeRow(x, 3, INTS, 0, 1, 0, 7);
    x.read(3);
    holds("the row is as it was", rows(x).endsWith("form 2: 0 1 0 7; "));
  }
}
