/** Boundaries of promises 18 to 21: plans. */
final class PlansBoundaries extends Boundaries {
  // ---- promise 18: better

  static void promise18_whatBelow0OrAbove2_isBad() {
    badOutside("better", 0, 2, (x, v) -> x.better(v));
  }

  static void promise18_nothingTold_allLikeTheLeastIs0() {
    better(new MilkHorse(), 0, 0, 0);
  }

  static void promise18_allThreeLike_theLeastIs0() {
    better(street("", "", "l"), 0, 0, 11);
  }

  static void promise18_horses1And2LikeAndBetterThan0_theLeastIs1() {
    // room 1, two bottles for door 2: by horse 0 he walks 6, by the others the cart is at door 1 for the second
    MilkHorse x = street("002", "", "c");
    x.set(ROOM, 1);
    x.set(HORSE, SLOW);
    better(x, 1, 0, 4);
  }

  static void promise18_horse2Alone_isFound() {
    // the slow one comes up to door 1 itself, the others wait at door 0
    MilkHorse x = street("02", "", "b");
    x.set(ROOM, 1);
    better(x, 2, 0, 1);
  }

  static void promise18_fewestShort_goAheadOfLeastWalked() {
    // by horses 0 and 1 he goes back to door 0 for each bottle; when he sets out for door 11, in minute 40, the
    // dogs let him by no more: walked 10, one short; by the slow one he sets out from door 1 in minute 31
    MilkHorse x = street("050000000001", "", times(20, "b") + "l");
    x.set(ROOM, 1);
    for (int minute = 40; minute <= 47; minute++) x.event(DOG, minute, 1);
    is("walked by horse 1", x.sum(0), 10);
    is("short by horse 1", x.lacks(), 2048);
    better(x, 2, 0, 11);
  }

  static void promise18_allShort_isToldToo() {
    better(street(times(12, "1"), "", ""), 0, 12, 0);
  }

  static void promise18_bareCart_isToldToo() {
    MilkHorse x = street("11", "", "ab");
    x.set(CART, 0);
    better(x, 0, 2, 0);
  }

  static void promise18_horseThatIs_stays() {
    for (int horse = 0; horse < 3; horse++) {
      int h = horse;
      Made made = () -> {
        MilkHorse x = busy();
        x.set(HORSE, h);
        return x;
      };
      onlyAnswers("better", made, x -> x.better(0), made.anew().better(0));
      is("horse", made.anew().count(4), h);
    }
  }

  private static void better(MilkHorse x, int which, int howMany, int howFar) {
    is("better(0)", x.better(0), which);
    is("better(1)", x.better(1), howMany);
    is("better(2)", x.better(2), howFar);
  }

  // ---- promise 19: fit

  static void promise19_whatBelow0OrAbove2_isBad() {
    badOutside("fit", 0, 2, (x, v) -> x.fit(v));
  }

  static void promise19_nothingTold_allLikeTheLeastIs1() {
    fit(new MilkHorse(), 1, 0, 0);
  }

  static void promise19_room1Enough_isTheLeast() {
    fit(street("1", "", "a"), 1, 0, 0);
  }

  static void promise19_room8Alone_isFound() {
    // eight bottles in all: with room 7 he has to go back to the cart for the last one
    MilkHorse x = street("053", "", "bc");
    x.set(HORSE, WAITS);
    fit(x, 8, 0, 2);
  }

  static void promise19_room7AndRoom8Like_is7() {
    MilkHorse x = street("052", "", "bc");
    x.set(HORSE, WAITS);
    fit(x, 7, 0, 2);
  }

  static void promise19_fewestShort_goAheadOfLeastWalked() {
    // with room 1 door 0 takes ten minutes, so that he comes to door 7 in 39 and stands to the end: walked 7, one
    // short; with room 2 it takes six, and one bottle is left for door 11: he is by door 8 in time
    MilkHorse x = street("500000000001", "", times(23, "a") + "l");
    for (int minute = 40; minute <= 47; minute++) x.event(DOG, minute, 8);
    x.set(ROOM, 1);
    is("walked with room 1", x.sum(0), 7);
    is("short with room 1", x.lacks(), 2048);
    fit(x, 2, 0, 11);
  }

  static void promise19_allShort_isToldToo() {
    fit(street(times(12, "5"), "", "x"), 1, 12, 0);
  }

  static void promise19_roomThatIs_stays() {
    for (int room : new int[] {1, 8}) {
      Made made = () -> {
        MilkHorse x = busy();
        x.set(ROOM, room);
        return x;
      };
      onlyAnswers("fit", made, x -> x.fit(0), made.anew().fit(0));
      is("room", made.anew().count(5), room);
    }
  }

  private static void fit(MilkHorse x, int which, int howMany, int howFar) {
    is("fit(0)", x.fit(0), which);
    is("fit(1)", x.fit(1), howMany);
    is("fit(2)", x.fit(2), howFar);
  }

  // ---- promise 20: swap

  static void promise20_whatBelow0OrAbove3_isBad() {
    badOutside("swap", 0, 3, (x, v) -> x.swap(v));
  }

  static void promise20_emptyRound_isNone() {
    swap(street("11", "", ""), NONE, NONE, NONE, NONE);
  }

  static void promise20_roundOfOne_isNone() {
    swap(street("11", "", "b"), NONE, NONE, NONE, NONE);
  }

  static void promise20_faultyRound_isNone() {
    swap(street("11", "", "abm"), NONE, NONE, NONE, NONE);
  }

  static void promise20_emptyRound_badIsAheadOfNone() {
    refused("swap(4)", MilkHorse::new, x -> x.swap(4), BAD);
    refused("swap(-1)", MilkHorse::new, x -> x.swap(-1), BAD);
  }

  static void promise20_roundOfTwo_isTheOnlyPairThoughItIsWorse() {
    MilkHorse x = street("11", "", "ab");
    is("walked as told", x.sum(0), 1);
    swap(x, 0, 1, 0, 2);
  }

  static void promise20_likeDoors_areAPairToo() {
    swap(street("", "", "bb"), 0, 1, 0, 1);
  }

  static void promise20_fullRound_lastPairIsFound() {
    swap(street("", "", times(22, "a") + "cb"), 22, 23, 0, 2);
  }

  static void promise20_fullRoundOfLikeDoors_theLeastRowIs0And1() {
    swap(street("", "", times(24, "a")), 0, 1, 0, 0);
  }

  static void promise20_likePairs_theLeastRow() {
    // 0 with 1, 0 with 2 and 2 with 3 all walk 3, the others 4 or 5
    swap(street("", "", "ccbb"), 0, 1, 0, 3);
  }

  static void promise20_pairOfPlacesApart_isFound() {
    // b b c walks 2, told and by the others 3
    swap(street("", "", "cbb"), 0, 2, 0, 2);
  }

  static void promise20_lastPairOfFour_isFound() {
    // b c c d walks 3, told and by the others 4 to 6
    swap(street("", "", "bcdc"), 2, 3, 0, 3);
  }

  static void promise20_fewestShort_goAheadOfLeastWalked() {
    // one bottle: told, door 0 gets it and two are short without a step; with door 1 ahead only door 0 is
    MilkHorse x = street("21", "", "aab");
    x.set(CART, 1);
    is("walked as told", x.sum(0), 0);
    is("short as told", x.lacks(), 3);
    swap(x, 0, 2, 1, 2);
  }

  static void promise20_roundThatIs_stays() {
    onlyAnswers("swap", Boundaries::busy, x -> x.swap(0), busy().swap(0));
    MilkHorse x = busy();
    x.swap(3);
    is("round(0)", x.round(0), 2);
    is("round(1)", x.round(1), 0);
    is("round(2)", x.round(2), 1);
  }

  private static void swap(MilkHorse x, int first, int other, int howMany, int howFar) {
    is("swap(0)", x.swap(0), first);
    is("swap(1)", x.swap(1), other);
    is("swap(2)", x.swap(2), howMany);
    is("swap(3)", x.swap(3), howFar);
  }

  // ---- promise 21: spare

  static void promise21_iBelowNoneOrAbove1_isBad() {
    badOutside("spare", NONE, 1, (x, v) -> x.spare(v));
  }

  static void promise21_nothingTold_is0AndNoIth() {
    spare(new MilkHorse(), 0, NONE, NONE);
  }

  static void promise21_harmlessEvents_are0AndNoIth() {
    spare(withEvents(street("1", "", "a"), 8, DOG, 30, 5), 0, NONE, NONE);
  }

  static void promise21_oneBroken_is1AndNoSecond() {
    spare(withEvents(street("1", "", "a"), 1, CAT, 5, 0), 1, 0, NONE);
  }

  static void promise21_twoBroken_are2() {
    spare(withEvents(street("2", "", "a"), 2, CAT, 5, 0), 2, 0, 1);
  }

  static void promise21_twoCatsForOneBottle_are2() {
    spare(withEvents(street("1", "", "a"), 2, CAT, 5, 0), 2, 0, 1);
  }

  static void promise21_threeBroken_isNone() {
    spare(withEvents(street("3", "", "a"), 3, CAT, 5, 0), NONE, NONE, NONE);
  }

  static void promise21_shortWithoutAnyEvent_isNone() {
    spare(street("1", "", ""), NONE, NONE, NONE);
  }

  static void promise21_shortWhateverIsSpared_isNone() {
    MilkHorse x = street("11", "", "a");
    x.event(CAT, 5, 0);
    spare(x, NONE, NONE, NONE);
  }

  static void promise21_noneBrokenButShort_isNotWell() {
    MilkHorse x = longMorning();
    x.event(DOG, 47, 11);
    is("short", x.lacks(), 2048);
    spare(x, 1, 0, NONE);
  }

  static void promise21_lastOfEight_isFound() {
    MilkHorse x = withEvents(street("1", "", "a"), 7, DOG, 30, 5);
    x.event(CAT, 5, 0);
    spare(x, 1, 7, NONE);
  }

  static void promise21_lastTwoOfEight_areFound() {
    MilkHorse x = withEvents(street("2", "", "a"), 6, DOG, 30, 5);
    x.event(CAT, 5, 0);
    x.event(CAT, 6, 0);
    spare(x, 2, 6, 7);
  }

  static void promise21_firstAndLastOfEight_areFound() {
    MilkHorse x = street("2", "", "a");
    x.event(CAT, 5, 0);
    withEvents(x, 6, DOG, 30, 5);
    x.event(CAT, 6, 0);
    spare(x, 2, 0, 7);
  }

  static void promise21_eitherOfTwo_isTheLeast() {
    // he would serve in minute 46 and may do so in 47: one dog may be, two may not
    MilkHorse x = longMorning("al");
    x.event(WHISTLE, 0, 0);
    x.event(DOG, 46, 11);
    x.event(DOG, 47, 11);
    spare(x, 1, 1, NONE);
  }

  static void promise21_pairsThatShareTheSecond_theLeastFirst() {
    // the cat must not be, and one of the two dogs
    MilkHorse x = longMorning("al");
    x.event(DOG, 46, 11);
    x.event(DOG, 47, 11);
    x.event(CAT, 40, 0);
    spare(x, 2, 0, 2);
  }

  static void promise21_pairsThatShareTheFirst_theLeastSecond() {
    MilkHorse x = longMorning("al");
    x.event(CAT, 40, 0);
    x.event(DOG, 46, 11);
    x.event(DOG, 47, 11);
    spare(x, 2, 0, 1);
  }

  static void promise21_harmlessOneAhead_isNotAmongTheTwo() {
    // the dog costs the one minute that there is to spare
    MilkHorse x = longMorning("al");
    x.event(DOG, 46, 11);
    x.event(CAT, 47, 0);
    x.event(CAT, 47, 0);
    spare(x, 2, 1, 2);
  }

  static void promise21_events_stay() {
    onlyAnswers("spare", Boundaries::busy, x -> x.spare(NONE), busy().spare(NONE));
    is("events", busy().count(2), 2);
  }

  private static void spare(MilkHorse x, int howMany, int first, int second) {
    is("spare(NONE)", x.spare(NONE), howMany);
    is("spare(0)", x.spare(0), first);
    is("spare(1)", x.spare(1), second);
  }
}
