/** Boundaries of promises 12 to 17: minutes. What the terms say of a minute is held by promise 12. */
final class MinutesBoundaries extends Boundaries {
  // ---- promise 12: at

  static void promise12_minuteBelow0OrAbove47_isBad() {
    for (int what = 0; what < 5; what++) {
      int w = what;
      badOutside("at " + w, 0, 47, (x, v) -> x.at(v, w));
    }
  }

  static void promise12_whatBelow0OrAbove4_isBad() {
    badOutside("at", 0, 4, (x, v) -> x.at(0, v));
    badOutside("at", 0, 4, (x, v) -> x.at(47, v));
  }

  static void promise12_minutes0And47_answer() {
    MilkHorse x = longMorning();
    is("he filled in 0", x.at(0, 4), FILLED);
    is("one full one behind 0", x.at(0, 2), 1);
    is("he served in 47", x.at(47, 4), SERVED);
    is("door 11 behind 47", x.at(47, 0), 11);
  }

  static void promise12_emptyRound_heRestsAtDoor0() {
    MilkHorse x = street("555", "555", "");
    minutes(x, 4, RESTED, RESTED, RESTED);
    minutes(x, 0, 0, 0, 0);
    is("in 47", x.at(47, 4), RESTED);
  }

  static void promise12_faultyRound_heRestsAtDoor0() {
    MilkHorse x = street("555", "", "abx");
    is("in 0", x.at(0, 4), RESTED);
    is("in 47", x.at(47, 4), RESTED);
  }

  static void promise12_faultyWants_areAsNone() {
    MilkHorse x = street("5x", "", "a");
    minutes(x, 4, SERVED, RESTED);
    is("full ones", x.at(0, 2), 0);
  }

  static void promise12_fullRound_isDoneTo24thPlace() {
    MilkHorse x = street("", "", times(24, "a"));
    is("in 23", x.at(23, 4), SERVED);
    is("in 24", x.at(24, 4), RESTED);
  }

  static void promise12_roundDone_heStaysWhereHeIs() {
    MilkHorse x = street("", "", "l");
    is("behind 10", x.at(10, 0), 11);
    is("in 11", x.at(11, 4), SERVED);
    is("in 12", x.at(12, 4), RESTED);
    is("behind 47", x.at(47, 0), 11);
  }

  static void promise12_wayToDoor11AndBack_endsAtTheEndsOfTheStreet() {
    MilkHorse x = street("", "", "la");
    is("behind 10", x.at(10, 0), 11);
    is("behind 11", x.at(11, 0), 11);
    is("behind 21", x.at(21, 0), 1);
    is("behind 22", x.at(22, 0), 0);
    is("in 23", x.at(23, 4), SERVED);
  }

  // ---- the crate and the cart

  static void promise12_doorThatWantsNone_heGoesWithAnEmptyCrate() {
    MilkHorse x = street("", "", "b");
    minutes(x, 4, WENT, SERVED, RESTED);
    minutes(x, 2, 0, 0, 0);
  }

  static void promise12_doorThatWantsAny_heFillsFirst() {
    MilkHorse x = street("01", "", "b");
    minutes(x, 4, FILLED, WENT, SERVED, RESTED);
    minutes(x, 2, 4, 4, 3, 3);
  }

  static void promise12_emptyCrateAtADoorThatWantsNoMore_heGoesOn() {
    MilkHorse x = street("4", "", "ab");
    minutes(x, 4, FILLED, SERVED, WENT, SERVED, RESTED);
    minutes(x, 2, 4, 0, 0, 0, 0);
  }

  static void promise12_fillWithMoreInTheCartThanRoom_takesAllTheRoom() {
    MilkHorse x = street("1", "", "a");
    x.set(ROOM, 8);
    is("full ones", x.at(0, 2), 8);
    x.set(ROOM, 1);
    is("full ones", x.at(0, 2), 1);
  }

  static void promise12_fillWithJustTheRoomInTheCart_takesAll() {
    MilkHorse x = street("4", "", "a");
    x.set(CART, 4);
    is("full ones", x.at(0, 2), 4);
    is("left", x.sum(4), 0);
    is("over", x.over(), 2);
    is("lacks", x.lacks(), 0);
  }

  static void promise12_fillWithLessInTheCartThanRoom_takesWhatThereIs() {
    MilkHorse x = street("4", "", "a");
    x.set(CART, 3);
    minutes(x, 2, 3, 0, 0, 0);
    minutes(x, 4, FILLED, SERVED, FILLED, RESTED);
  }

  static void promise12_fillAtABareCart_theRoundIsDoneFromTheNextMinuteOn() {
    MilkHorse x = street("1", "", "aaa");
    x.set(CART, 0);
    minutes(x, 4, FILLED, RESTED, RESTED);
    minutes(x, 2, 0, 0, 0);
  }

  static void promise12_fillThatLeavesTheCartBare_theRoundGoesOn() {
    MilkHorse x = street("01", "", "b");
    x.set(CART, 1);
    minutes(x, 4, FILLED, WENT, SERVED, RESTED);
  }

  static void promise12_bareCartButNoneWanted_theRoundGoesOn() {
    MilkHorse x = street("", "11", "ab");
    x.set(CART, 0);
    minutes(x, 4, SERVED, WENT, SERVED, RESTED);
  }

  static void promise12_bareFill_takesEmptiesOutToo() {
    MilkHorse x = street("01", "3", "ab");
    x.set(CART, 0);
    minutes(x, 4, SERVED, FILLED, RESTED);
    minutes(x, 3, 3, 0, 0);
  }

  static void promise12_doorThatStillWants_heComesBackToIt() {
    MilkHorse x = street("5", "", "ab");
    minutes(x, 4, FILLED, SERVED, FILLED, SERVED, WENT, SERVED, RESTED);
    minutes(x, 2, 4, 0, 4, 3, 3, 3, 3);
  }

  // ---- empties

  static void promise12_emptiesMoreThanRoom_someStay() {
    MilkHorse x = street("", "5", "a");
    is("taken", x.at(0, 3), 4);
    is("there", x.door(0, 0, 2), 1);
  }

  static void promise12_emptiesJustTheRoom_noneStays() {
    MilkHorse x = street("", "4", "a");
    is("taken", x.at(0, 3), 4);
    is("there", x.door(0, 0, 2), 0);
  }

  static void promise12_crateFullOfBoth_noEmptyIsTaken() {
    MilkHorse x = street("1", "15", "ab");
    x.set(ROOM, 2);
    minutes(x, 2, 2, 1, 1, 1);
    minutes(x, 3, 0, 1, 1, 1);
    is("there", x.door(3, 1, 2), 5);
    is("over", x.over(), 4);
  }

  static void promise12_bottlesLaidDownFirst_makeRoomForEmpties() {
    MilkHorse x = street("4", "5", "a");
    minutes(x, 2, 4, 0);
    minutes(x, 3, 0, 4);
  }

  static void promise12_fill_takesAllEmptiesOutAndAllTheRoom() {
    MilkHorse x = street("01", "5", "ab");
    minutes(x, 4, SERVED, FILLED, WENT, SERVED);
    minutes(x, 3, 4, 0, 0, 0);
    minutes(x, 2, 0, 4, 4, 3);
  }

  static void promise12_noEmpties_noneIsTaken() {
    MilkHorse x = street("1", "0", "a");
    minutes(x, 3, 0, 0, 0);
  }

  static void promise12_emptiesOfADoorNotInTheRound_stay() {
    MilkHorse x = street("", "05", "c");
    is("crate", x.at(47, 3), 0);
    is("there", x.door(47, 1, 2), 5);
  }

  // ---- the horse

  static void promise12_horseThatWaits_neverGoes() {
    MilkHorse x = street("", "", "l");
    x.set(HORSE, WAITS);
    is("behind 0", x.at(0, 1), 0);
    is("behind 47", x.at(47, 1), 0);
  }

  static void promise12_horseThatKnows_oneDoorFromHimItStays() {
    minutes(street("", "", "b"), 1, 0, 0, 0, 0);
  }

  static void promise12_horseThatKnows_twoDoorsFromHimItGoesOne() {
    minutes(street("", "", "c"), 1, 0, 1, 1, 1);
  }

  static void promise12_horseThatKnows_goesBackTooAtTwoDoors() {
    MilkHorse x = street("", "", "da");
    minutes(x, 0, 1, 2, 3, 3, 2, 1, 0, 0);
    minutes(x, 1, 0, 1, 2, 2, 2, 2, 1, 1);
  }

  static void promise12_horseThatIsSlow_goesInMinute0() {
    MilkHorse x = street("", "", "b");
    x.set(HORSE, SLOW);
    minutes(x, 1, 1, 1, 1);
  }

  static void promise12_horseThatIsSlow_staysInOddMinutes() {
    MilkHorse x = street("", "", "e");
    x.set(HORSE, SLOW);
    minutes(x, 0, 1, 2, 3, 4);
    minutes(x, 1, 1, 1, 2, 2, 3, 3, 4, 4, 4);
  }

  static void promise12_horseThatIsSlow_staysWhereTheManIs() {
    MilkHorse x = street("", "", "aaa");
    x.set(HORSE, SLOW);
    minutes(x, 1, 0, 0, 0, 0);
  }

  static void promise12_horseThatIsSlow_goesInMinute46AndNotIn47() {
    // he leaves door 0 in minute 27, so the cart is at door 1 behind 28 and one farther behind each even one
    MilkHorse x = street("", "", times(23, "a") + "l");
    x.set(HORSE, SLOW);
    for (int minute = 23; minute <= 26; minute++) x.event(DOG, minute, 1);
    is("behind 45", x.at(45, 1), 9);
    is("behind 46", x.at(46, 1), 10);
    is("behind 47", x.at(47, 1), 10);
  }

  // ---- whistles

  static void promise12_whistleWhereTheManIs_theCartStays() {
    is("cart", whistled(0), 0);
  }

  static void promise12_whistleTwoDoorsOff_theCartComesToHim() {
    is("cart", whistled(2), 2);
  }

  static void promise12_whistleThreeDoorsOff_theCartComesToHim() {
    is("cart", whistled(3), 3);
  }

  static void promise12_whistleFourDoorsOff_theCartComesByThree() {
    is("cart", whistled(4), 3);
  }

  static void promise12_whistleElevenDoorsOff_theCartComesByThree() {
    is("cart", whistled(11), 3);
  }

  /** The man is at door m ahead of minute m, the horse waits at door 0: the cart behind that whistle. */
  private static int whistled(int minute) {
    MilkHorse x = street("", "", "l");
    x.set(HORSE, WAITS);
    x.event(WHISTLE, minute, 5);
    return x.at(minute, 1);
  }

  static void promise12_twoWhistlesInAMinute_theCartComesBySix() {
    is("cart", whistledOften(2), 6);
  }

  static void promise12_threeWhistlesInAMinute_theCartStopsAtTheMan() {
    is("cart", whistledOften(3), 7);
    is("eight of them", whistledOften(8), 7);
  }

  private static int whistledOften(int many) {
    MilkHorse x = street("", "", "l");
    x.set(HORSE, WAITS);
    return withEvents(x, many, WHISTLE, 7, 0).at(7, 1);
  }

  static void promise12_whistleFromTheOtherSide_theCartComesBackByThreeAtMost() {
    is("three off", whistledBack(11), 0);
    is("two off", whistledBack(10), 1);
    MilkHorse x = street("", "", "ia");
    x.set(HORSE, WAITS);
    withEvents(x, 3, WHISTLE, 8, 0);
    x.event(WHISTLE, 17, 0);
    is("at the man", x.at(8, 1), 8);
    is("eight off", x.at(17, 1), 5);
  }

  /** He is at door 5 in minute 5, and on his way back to door 0 from minute 6 to 10. */
  private static int whistledBack(int minute) {
    MilkHorse x = street("", "", "fa");
    x.set(HORSE, WAITS);
    x.event(WHISTLE, 5, 0);
    x.event(WHISTLE, minute, 0);
    is("cart at first", x.at(5, 1), 3);
    return x.at(minute, 1);
  }

  static void promise12_whistle_isAheadOfTheManInItsMinute() {
    MilkHorse x = street("0002", "", "d");
    x.set(HORSE, WAITS);
    x.set(ROOM, 1);
    x.event(WHISTLE, 5, 0);
    is("he fills where the cart came to", x.at(5, 4), FILLED);
  }

  static void promise12_whistleInMinutes0And47_isHeard() {
    MilkHorse x = street("", "", "d");
    x.set(HORSE, WAITS);
    x.event(WHISTLE, 47, 0);
    is("behind 46", x.at(46, 1), 0);
    is("behind 47", x.at(47, 1), 3);
    x.event(WHISTLE, 0, 0);
    is("behind 0 the man was at the cart", x.at(0, 1), 0);
  }

  static void promise12_whistleAtRest_isHeardToo() {
    MilkHorse x = street("", "", "d");
    x.set(HORSE, WAITS);
    x.event(WHISTLE, 10, 0);
    is("he rests", x.at(10, 4), RESTED);
    is("the cart comes", x.at(10, 1), 3);
  }

  // ---- dogs

  static void promise12_dogAtTheNextDoor_heStands() {
    MilkHorse x = street("", "", "c");
    x.event(DOG, 0, 1);
    minutes(x, 4, STOOD, WENT, WENT, SERVED);
    minutes(x, 0, 0, 1, 2, 2);
  }

  static void promise12_dogTwoDoorsAhead_heGoes() {
    MilkHorse x = street("", "", "c");
    x.event(DOG, 0, 2);
    minutes(x, 4, WENT, WENT, SERVED);
  }

  static void promise12_dogAtHisOwnDoor_heGoesOn() {
    MilkHorse x = street("", "", "c");
    x.event(DOG, 0, 0);
    x.event(DOG, 1, 1);
    minutes(x, 4, WENT, WENT, SERVED);
  }

  static void promise12_dogAtTheDoorHeServes_heStands() {
    MilkHorse x = street("1", "1", "a");
    x.event(DOG, 1, 0);
    minutes(x, 4, FILLED, STOOD, SERVED);
    minutes(x, 2, 4, 4, 3);
    is("nothing laid down", x.door(1, 0, 0), 0);
    is("no empties taken", x.door(1, 0, 2), 1);
  }

  static void promise12_dogAtADoorThatWantsNone_heStandsThereToo() {
    MilkHorse x = street("", "", "a");
    x.event(DOG, 0, 0);
    minutes(x, 4, STOOD, SERVED, RESTED);
  }

  static void promise12_dogAtTheCart_heFills() {
    MilkHorse x = street("1", "", "a");
    x.event(DOG, 0, 0);
    minutes(x, 4, FILLED, SERVED);
  }

  static void promise12_dogOnTheWayBackToTheCart_heStands() {
    MilkHorse x = street("02", "", "b");
    x.set(HORSE, WAITS);
    x.set(ROOM, 1);
    x.event(DOG, 3, 0);
    minutes(x, 4, FILLED, WENT, SERVED, STOOD, WENT, FILLED, WENT, SERVED);
  }

  static void promise12_dogAtRest_heRests() {
    MilkHorse x = street("", "", "");
    x.event(DOG, 0, 0);
    is("in 0", x.at(0, 4), RESTED);
  }

  static void promise12_dogTheMinuteAheadOrBehind_letsHimBy() {
    MilkHorse x = street("", "", "c");
    x.event(DOG, 1, 1);
    x.event(DOG, 0, 2);
    minutes(x, 4, WENT, WENT, SERVED);
  }

  static void promise12_dogsAtDoors0And11_inMinutes0And47() {
    MilkHorse x = longMorning();
    x.event(DOG, 47, 11);
    is("in 47", x.at(47, 4), STOOD);
    MilkHorse y = street("", "", "a");
    y.event(DOG, 0, 0);
    is("in 0", y.at(0, 4), STOOD);
  }

  static void promise12_twoDogsAtADoor_areAsOne() {
    MilkHorse x = street("", "", "c");
    withEvents(x, 2, DOG, 0, 1);
    minutes(x, 4, STOOD, WENT, WENT, SERVED);
  }

  static void promise12_dogsAtTwoDoorsInAMinute_areBothThere() {
    MilkHorse x = street("", "", "c");
    x.event(DOG, 0, 1);
    x.event(DOG, 0, 5);
    is("the first told", x.at(0, 4), STOOD);
    MilkHorse y = street("", "", "c");
    y.event(DOG, 0, 5);
    y.event(DOG, 0, 1);
    is("the last told", y.at(0, 4), STOOD);
  }

  static void promise12_dog_doesNotHinderTheHorse() {
    MilkHorse x = street("", "", "c");
    x.event(DOG, 1, 1);
    minutes(x, 1, 0, 1);
  }

  // ---- promise 13: door

  static void promise13_minuteBelow0OrAbove47_isBad() {
    badOutside("door", 0, 47, (x, v) -> x.door(v, 0, 0));
  }

  static void promise13_doorBelow0OrAbove11_isBad() {
    badOutside("door", 0, 11, (x, v) -> x.door(0, v, 0));
    badOutside("door", 0, 11, (x, v) -> x.door(47, v, 2));
  }

  static void promise13_whatBelow0OrAbove2_isBad() {
    badOutside("door", 0, 2, (x, v) -> x.door(0, 0, v));
    badOutside("door", 0, 2, (x, v) -> x.door(47, 11, v));
  }

  static void promise13_minutes0And47OfDoors0And11_answer() {
    MilkHorse x = street("", "500000000004", "a");
    is("empties of door 0 behind 0", x.door(0, 0, 2), 1);
    is("empties of door 11 behind 0", x.door(0, 11, 2), 4);
    is("empties of door 11 behind 47", x.door(47, 11, 2), 4);
    is("laid at door 11 behind 47", longMorning().door(47, 11, 0), 2);
    is("stand at door 11 behind 47", longMorning().door(47, 11, 1), 2);
  }

  static void promise13_behindAMinute_isWithWhatHeDidInIt() {
    MilkHorse x = longMorning();
    is("behind 22", x.door(22, 11, 0), 0);
    is("behind 23", x.door(23, 11, 0), 1);
    is("behind 46", x.door(46, 11, 0), 1);
    is("behind 47", x.door(47, 11, 0), 2);
  }

  static void promise13_moreInTheCrateThanWanted_noMoreIsLaidDown() {
    MilkHorse x = street("2", "", "aa");
    is("laid", x.door(47, 0, 0), 2);
    is("stand", x.door(47, 0, 1), 2);
  }

  static void promise13_lessInTheCrateThanWanted_allIsLaidDown() {
    MilkHorse x = street("5", "", "a");
    is("behind 1", x.door(1, 0, 0), 4);
    is("behind 3", x.door(3, 0, 0), 5);
  }

  static void promise13_doorThatWantsNone_hasNone() {
    MilkHorse x = street("10", "", "aba");
    is("laid", x.door(47, 1, 0), 0);
    is("stand", x.door(47, 1, 1), 0);
  }

  static void promise13_catWhereNoneStands_breaksNone() {
    MilkHorse x = street("1", "1", "a");
    x.event(CAT, 0, 0);
    x.event(CAT, 5, 1);
    is("stand", x.door(47, 0, 1), 1);
    is("stand at 1", x.door(47, 1, 1), 0);
    is("broken", x.sum(2), 0);
  }

  static void promise13_catInTheMinuteOfLayingDown_comesTooEarly() {
    MilkHorse x = street("2", "", "a");
    x.event(CAT, 1, 0);
    is("stand", x.door(1, 0, 1), 2);
    is("stand at last", x.door(47, 0, 1), 2);
  }

  static void promise13_catInTheNextMinute_breaksOne() {
    MilkHorse x = street("2", "", "a");
    x.event(CAT, 2, 0);
    is("stand behind 1", x.door(1, 0, 1), 2);
    is("stand behind 2", x.door(2, 0, 1), 1);
    is("laid down ever", x.door(2, 0, 0), 2);
  }

  static void promise13_twoCatsForOneBottle_breakOne() {
    MilkHorse x = street("1", "", "a");
    withEvents(x, 2, CAT, 5, 0);
    is("stand", x.door(5, 0, 1), 0);
    is("broken", x.sum(2), 1);
  }

  static void promise13_catInMinute47_breaksOneStill() {
    MilkHorse x = street("1", "", "a");
    x.event(CAT, 47, 0);
    is("behind 46", x.door(46, 0, 1), 1);
    is("behind 47", x.door(47, 0, 1), 0);
  }

  static void promise13_catAtDoor11_breaksOneThere() {
    MilkHorse x = longMorning();
    x.event(CAT, 24, 11);
    is("behind 24", x.door(24, 11, 1), 0);
    is("behind 47", x.door(47, 11, 1), 1);
    is("laid", x.door(47, 11, 0), 2);
  }

  static void promise13_cat_leavesEmpties() {
    MilkHorse x = street("", "5", "b");
    x.event(CAT, 3, 0);
    is("empties", x.door(47, 0, 2), 5);
    is("broken", x.sum(2), 0);
  }

  static void promise13_brokenBottle_isNotWantedAgain() {
    MilkHorse x = street("5", "", "aa");
    x.event(CAT, 2, 0);
    is("laid", x.door(47, 0, 0), 5);
    is("stand", x.door(47, 0, 1), 4);
  }

  // ---- promise 14: done

  static void promise14_doorBelow0OrAbove11_isBad() {
    badOutside("done", 0, 11, (x, v) -> x.done(v));
  }

  static void promise14_doorThatWantsNone_is0() {
    MilkHorse x = street("10", "", "a");
    is("told 0", x.done(1), 0);
    is("not told", x.done(11), 0);
  }

  static void promise14_faultyWants_all0() {
    MilkHorse x = street("5555x", "", "");
    for (int door = 0; door < 12; door++) is("done", x.done(door), 0);
  }

  static void promise14_earliestForOneThatWantsAny_is1() {
    is("done", street("1", "", "a").done(0), 1);
  }

  static void promise14_servedInMinute47_is47() {
    is("done", longMorning().done(11), 47);
    is("a place less", longMorning("al").done(11), 46);
  }

  static void promise14_oneMinuteTooLate_isNone() {
    is("done", longMorning("aaal").done(11), NONE);
  }

  static void promise14_doorNotInTheRound_isNone() {
    is("done", street("11", "", "a").done(1), NONE);
    is("no round", street("11", "", "").done(0), NONE);
  }

  static void promise14_halfServed_isNotYetDone() {
    is("done", street("5", "", "a").done(0), 3);
    MilkHorse x = street("5", "", "a");
    x.set(CART, 4);
    is("never", x.done(0), NONE);
  }

  static void promise14_brokenBottle_leavesItDone() {
    MilkHorse x = street("1", "", "a");
    x.event(CAT, 2, 0);
    is("done", x.done(0), 1);
  }

  // ---- promise 15: sum

  static void promise15_whatBelow0OrAbove4_isBad() {
    badOutside("sum", 0, 4, (x, v) -> x.sum(v));
  }

  static void promise15_emptyRound_all0ButLeft() {
    MilkHorse x = street("5", "5", "");
    for (int what = 0; what < 4; what++) is("sum " + what, x.sum(what), 0);
    is("left", x.sum(4), 40);
  }

  static void promise15_walked_standingAtADogIsNoWay() {
    MilkHorse x = street("", "", "c");
    withEvents(x, 3, DOG, 0, 1);
    x.event(DOG, 1, 1);
    is("walked", x.sum(0), 2);
  }

  static void promise15_walked_minute47Counts() {
    MilkHorse x = longMorning("aaal");
    is("walked", x.sum(0), 33);
    is("a place more", longMorning("aaaal").sum(0), 32);
  }

  static void promise15_filled_atABareCartCounts() {
    MilkHorse x = street("1", "", "a");
    x.set(CART, 0);
    is("filled", x.sum(1), 1);
    x.set(CART, 1);
    is("filled", x.sum(1), 1);
  }

  static void promise15_filled_asManyAsBottlesWithRoom1() {
    MilkHorse x = street("5", "", "a");
    x.set(ROOM, 1);
    is("filled", x.sum(1), 5);
  }

  static void promise15_broken_noMoreThanStand() {
    MilkHorse x = withEvents(street("3", "", "a"), 8, CAT, 10, 0);
    is("broken", x.sum(2), 3);
    MilkHorse y = withEvents(street("5", "", "a"), 5, CAT, 10, 0);
    is("broken", y.sum(2), 5);
  }

  static void promise15_back_emptiesInTheCrateAtTheEndAreNotBrought() {
    MilkHorse x = street("", "3", "a");
    is("back", x.sum(3), 0);
    is("crate", x.at(47, 3), 3);
  }

  static void promise15_back_emptiesBroughtToABareCartCount() {
    MilkHorse x = street("01", "3", "ab");
    x.set(CART, 0);
    is("back", x.sum(3), 3);
  }

  static void promise15_back_noMoreThanTheRoom() {
    is("back", street("01", "5", "ab").sum(3), 4);
    MilkHorse x = street("01", "5", "ab");
    x.set(ROOM, 8);
    is("back", x.sum(3), 5);
  }

  static void promise15_left_0WhenAllIsTaken() {
    MilkHorse x = street("4", "", "a");
    x.set(CART, 4);
    is("left", x.sum(4), 0);
    x.set(CART, 0);
    is("left of none", x.sum(4), 0);
  }

  static void promise15_left_60WhenNoneIsTaken() {
    MilkHorse x = street("", "", "l");
    x.set(CART, 60);
    is("left", x.sum(4), 60);
  }

  static void promise15_left_isWithoutWhatIsInTheCrate() {
    MilkHorse x = street("1", "", "a");
    x.set(CART, 60);
    is("left", x.sum(4), 56);
    is("crate", x.at(47, 2), 3);
  }

  // ---- promise 16: over

  static void promise16_emptyRound_is0() {
    is("over", new MilkHorse().over(), 0);
    is("with wants", street("5", "5", "").over(), 0);
  }

  static void promise16_faultyRound_is0() {
    is("over", street("5", "", "aam").over(), 0);
  }

  static void promise16_firstRestInMinute47_is47() {
    is("over", longMorning("al").over(), 47);
  }

  static void promise16_servingInMinute47_isNone() {
    is("over", longMorning().over(), NONE);
  }

  static void promise16_roundUnfinished_isNone() {
    is("over", longMorning("aaal").over(), NONE);
  }

  static void promise16_bareCart_isTheMinuteBehindTheFill() {
    MilkHorse x = street("1", "", "aaaa");
    x.set(CART, 0);
    is("over", x.over(), 1);
  }

  static void promise16_standing_isNoRest() {
    MilkHorse x = street("", "", "a");
    x.event(DOG, 0, 0);
    is("over", x.over(), 2);
  }

  // ---- promise 17: lacks

  static void promise17_nothingWanted_is0() {
    is("lacks", street("", "555", "").lacks(), 0);
    is("faulty wants", street("5x", "", "").lacks(), 0);
  }

  static void promise17_door0Alone_is1() {
    is("lacks", street("1", "", "").lacks(), 1);
  }

  static void promise17_door11Alone_is2048() {
    is("lacks", street("000000000001", "", "").lacks(), 2048);
  }

  static void promise17_allDoors_are4095() {
    is("lacks", street(times(12, "1"), "", "").lacks(), 4095);
    is("faulty round", street(times(12, "5"), "", "abcx").lacks(), 4095);
  }

  static void promise17_doorServedInMinute47_isNotShort() {
    is("lacks", longMorning().lacks(), 0);
  }

  static void promise17_oneMinuteTooLate_isShort() {
    is("lacks", longMorning("aaal").lacks(), 2048);
  }

  static void promise17_halfServed_isShort() {
    MilkHorse x = street("5", "", "a");
    x.set(CART, 4);
    is("laid", x.door(47, 0, 0), 4);
    is("lacks", x.lacks(), 1);
    x.set(CART, 5);
    is("one more", x.lacks(), 0);
  }

  static void promise17_brokenBottles_makeNoneShort() {
    MilkHorse x = withEvents(street("5", "", "a"), 5, CAT, 10, 0);
    is("lacks", x.lacks(), 0);
  }
}
