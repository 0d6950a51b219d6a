/** Boundaries of promises 22 to 29: seen, chance, mornings. */
final class SeenBoundaries extends Boundaries {
  private static final long LONG_BAD = Long.MIN_VALUE + 2;

  // ---- promise 22: seen

  static void promise22_minuteBelow0OrAbove47_isBad() {
    badOutside("seen", 0, 47, (x, v) -> x.seen(v, 0));
  }

  static void promise22_doorBelow0OrAbove11_isBad() {
    badOutside("seen", 0, 11, (x, v) -> x.seen(0, v));
  }

  static void promise22_leastAndMost_come() {
    MilkHorse x = new MilkHorse();
    is("the least", x.seen(0, 0), 1);
    is("the most", x.seen(47, 11), 2);
  }

  static void promise22_eightCome_theNinthIsFull() {
    MilkHorse x = new MilkHorse();
    for (int i = 1; i <= 8; i++) is("seen " + i, x.seen(i, i), i);
    is("seen 9", x.seen(9, 9), FULL);
    is("count(7)", x.count(7), 8);
  }

  static void promise22_full_refusedCallChangesNothing() {
    refused("seen", SeenBoundaries::eightSeen, x -> x.seen(5, 5), FULL);
  }

  static void promise22_full_badIsAheadOfFull() {
    refused("minute 48", SeenBoundaries::eightSeen, x -> x.seen(48, 0), BAD);
    refused("minute -1", SeenBoundaries::eightSeen, x -> x.seen(-1, 0), BAD);
    refused("door 12", SeenBoundaries::eightSeen, x -> x.seen(0, 12), BAD);
    refused("door -1", SeenBoundaries::eightSeen, x -> x.seen(0, -1), BAD);
  }

  static void promise22_full_hasRoomAgainBehindForget() {
    MilkHorse x = eightSeen();
    x.forget();
    is("seen", x.seen(0, 0), 1);
  }

  static void promise22_likeTwice_areTwo() {
    MilkHorse x = new MilkHorse();
    is("seen", x.seen(3, 4), 1);
    is("seen", x.seen(3, 4), 2);
  }

  static void promise22_whatCannotBe_comesToo() {
    MilkHorse x = new MilkHorse();
    is("seen", x.seen(0, 11), 1);
    is("seen elsewhere then", x.seen(0, 10), 2);
  }

  /** The man stays at door 0, and so he was seen. */
  private static MilkHorse eightSeen() {
    MilkHorse x = new MilkHorse();
    for (int i = 0; i < 8; i++) x.seen(i, 0);
    return x;
  }

  // ---- promise 23: forget

  static void promise23_nothingSeen_is0() {
    onlyAnswers("forget", MilkHorse::new, x -> x.forget(), 0);
  }

  static void promise23_eightSeen_are8() {
    is("forget", eightSeen().forget(), 8);
  }

  static void promise23_full_ninthRefusedIsNotCounted() {
    MilkHorse x = eightSeen();
    x.seen(9, 9);
    is("forget", x.forget(), 8);
  }

  static void promise23_twice_is0TheSecondTime() {
    MilkHorse x = eightSeen();
    x.forget();
    is("forget again", x.forget(), 0);
    is("count(7)", x.count(7), 0);
  }

  static void promise23_forgotten_bindNoMore() {
    MilkHorse x = street("0002", "", "d");
    x.seen(0, 11);
    is("numbers", x.numbers(3), 0);
    x.forget();
    is("digest", x.digest(), street("0002", "", "d").digest());
    is("numbers", x.numbers(3), 63);
  }

  static void promise23_forgottenPlaces_areNotThereBehindNewOnes() {
    MilkHorse x = street("0002", "", "d");
    x.seen(0, 0);
    x.seen(47, 11);
    x.forget();
    x.seen(0, 0);
    is("numbers", x.numbers(3), 62);
  }

  // ---- promise 24: never

  static void promise24_noEvents_is0() {
    onlyAnswers("never", () -> street("1", "", "a"), x -> x.never(), 0);
    is("seen as it was", eightSeen().never(), 0);
  }

  static void promise24_nothingSeen_allEventsAreBits() {
    MilkHorse x = new MilkHorse();
    int all = 0;
    for (int i = 0; i < 8; i++) {
      x.event(CAT, i, i);
      all = 2 * all + 1;
      is("never", x.never(), all);
    }
  }

  static void promise24_eightEventsThatDoNotMatter_are255() {
    MilkHorse x = withEvents(street("", "", "c"), 8, DOG, 30, 5);
    x.seen(47, 2);
    is("never", x.never(), 255);
  }

  static void promise24_seenWhatCannotBe_is0() {
    MilkHorse x = withEvents(street("", "", "c"), 8, DOG, 30, 5);
    x.seen(47, 3);
    is("never", x.never(), 0);
  }

  static void promise24_eighthEventAlone_is128() {
    MilkHorse x = withEvents(street("", "", "c"), 7, DOG, 30, 5);
    x.event(DOG, 0, 1);
    x.seen(0, 1);
    is("never", x.never(), 128);
  }

  static void promise24_allButTheEighth_are127() {
    MilkHorse x = withEvents(street("", "", "c"), 7, DOG, 30, 5);
    x.event(DOG, 0, 1);
    x.seen(0, 0);
    is("never", x.never(), 127);
  }

  static void promise24_twoThatOnlyTogetherMatter_areNone() {
    MilkHorse x = withEvents(street("", "", "c"), 2, DOG, 0, 1);
    x.seen(0, 1);
    is("never", x.never(), 0);
  }

  static void promise24_oneOfEightSeenDoesNotFit_is0() {
    MilkHorse x = street("", "", "c");
    x.event(DOG, 0, 1);
    for (int i = 0; i < 7; i++) x.seen(47, 2);
    is("seven fit", x.never(), 1);
    x.seen(47, 1);
    is("the eighth does not", x.never(), 0);
  }

  static void promise24_seenInMinutes0And47_bind() {
    MilkHorse x = street("", "", "c");
    x.event(DOG, 0, 1);
    x.seen(0, 1);
    is("never", x.never(), 1);
    x.seen(47, 1);
    is("never", x.never(), 0);
  }

  static void promise24_events_stay() {
    onlyAnswers("never", Boundaries::busy, x -> x.never(), busy().never());
    is("events", busy().count(2), 2);
  }

  // ---- promise 25: numbers

  static void promise25_doorBelow0OrAbove11_isBad() {
    badOutside("numbers", 0, 11, (x, v) -> x.numbers(v));
  }

  static void promise25_nothingSeen_all63() {
    for (int door = 0; door < 12; door++) is("numbers", street("0002", "", "d").numbers(door), 63);
  }

  static void promise25_only0_is1() {
    // he goes at once, he does not fill
    is("numbers", numbersOfDoor3(0, 1), 1);
  }

  static void promise25_only5_is32() {
    // the crate has room for four: only for a fifth he goes back
    is("numbers", numbersOfDoor3(5, 2), 32);
  }

  static void promise25_allBut0_are62() {
    is("numbers", numbersOfDoor3(0, 0), 62);
  }

  static void promise25_allBut5_are31() {
    is("numbers", numbersOfDoor3(5, 3), 31);
  }

  static void promise25_seenWhatCannotBe_is0() {
    is("numbers", numbersOfDoor3(0, 11), 0);
    is("numbers", numbersOfDoor3(47, 0), 0);
  }

  private static int numbersOfDoor3(int minute, int door) {
    MilkHorse x = street("0002", "", "d");
    x.seen(minute, door);
    return x.numbers(3);
  }

  static void promise25_contradiction_is0() {
    MilkHorse x = street("0002", "", "d");
    x.seen(47, 3);
    x.seen(47, 2);
    is("numbers", x.numbers(3), 0);
  }

  static void promise25_doorNotInTheRound_matchesAllOrNone() {
    MilkHorse x = street("0002", "", "d");
    x.seen(4, 3);
    is("fits as told", x.numbers(11), 63);
    x.seen(4, 2);
    is("does not", x.numbers(11), 0);
  }

  static void promise25_door11_isAskedToo() {
    MilkHorse x = street("", "", "l");
    x.seen(0, 0);
    is("numbers", x.numbers(11), 62);
  }

  static void promise25_whatIsTold_stays() {
    onlyAnswers("numbers", Boundaries::busy, x -> x.numbers(0), busy().numbers(0));
    MilkHorse x = street("0002", "", "d");
    x.numbers(3);
    is("told", x.told(3, 0), 2);
  }

  static void promise25_faultyWants_areReplacedFromNone() {
    MilkHorse x = street("5x", "", "b");
    x.seen(0, 1);
    is("numbers of the door in the round", x.numbers(1), 1);
    is("numbers of a door besides", x.numbers(0), 63);
  }

  // ---- promise 26: might

  static void promise26_whatBelow0OrAbove1_isBad() {
    badOutside("might", 0, 1, (x, v) -> x.might(v));
  }

  static void promise26_nothingSeen_allKinds7() {
    is("might(0)", street("0003", "", "d").might(0), 7);
  }

  static void promise26_nothingSeen_allRooms510() {
    is("might(1)", street("0003", "", "d").might(1), 510);
  }

  static void promise26_onlyHorse0_is1() {
    is("might(0)", kind(7, 0), 1);
  }

  static void promise26_onlyHorse1_is2() {
    is("might(0)", kind(9, 2), 2);
  }

  static void promise26_onlyHorse2_is4() {
    is("might(0)", kind(9, 3), 4);
  }

  static void promise26_horses1And2_are6() {
    is("might(0)", kind(6, 2), 6);
  }

  static void promise26_noHorse_is0() {
    is("might(0)", kind(0, 11), 0);
  }

  /** Three bottles for door 3, one at a time: he goes back to door 0, 2 or where the cart has come to. */
  private static int kind(int minute, int door) {
    MilkHorse x = street("0003", "", "d");
    x.set(ROOM, 1);
    x.seen(minute, door);
    return x.might(0);
  }

  static void promise26_onlyRoom1_is2() {
    MilkHorse x = street("0002", "", "d");
    x.seen(5, 2);
    is("might(1)", x.might(1), 2);
  }

  static void promise26_onlyRoom8_is256() {
    MilkHorse x = street("053", "", "bc");
    x.seen(3, 2);
    is("rooms 6 to 8", x.might(1), 448);
    x.seen(5, 2);
    is("room 8", x.might(1), 256);
  }

  static void promise26_noRoom_is0() {
    MilkHorse x = street("053", "", "bc");
    x.seen(0, 1);
    is("might(1)", x.might(1), 0);
  }

  static void promise26_horseAndRoomThatAre_stay() {
    onlyAnswers("might(0)", Boundaries::busy, x -> x.might(0), busy().might(0));
    onlyAnswers("might(1)", Boundaries::busy, x -> x.might(1), busy().might(1));
    is("horse", busy().count(4), SLOW);
    is("room", busy().count(5), 3);
  }

  // ---- promise 27: ask

  static void promise27_nothingToldNorSeen_is0() {
    is("ask", new MilkHorse().ask(), 0);
  }

  static void promise27_allRoomsLike_is0() {
    is("ask", street("1", "", "al").ask(), 0);
  }

  static void promise27_noRoomFits_is0() {
    MilkHorse x = street("0002", "", "d");
    x.seen(0, 11);
    is("rooms", x.might(1), 0);
    is("ask", x.ask(), 0);
  }

  static void promise27_oneRoomFits_is0() {
    MilkHorse x = street("0002", "", "d");
    x.seen(5, 2);
    is("rooms", x.might(1), 2);
    is("ask", x.ask(), 0);
  }

  static void promise27_twoLikeMinutes_theLeast() {
    // by room 1 he is at door 2 behind minutes 5 and 6, by the other seven at door 3
    MilkHorse x = street("0002", "", "d");
    is("ask", x.ask(), 5);
  }

  static void promise27_roomsThatDoNotFit_areNotCounted() {
    MilkHorse x = street("0002", "", "d");
    x.seen(5, 3);
    is("rooms", x.might(1), 508);
    is("ask", x.ask(), 0);
  }

  static void promise27_onlyTheLastMinuteTells_is47() {
    // rooms 6 to 8 fit; for the second bottle at door 11 room 6 has to go back, in the last minute
    MilkHorse x = street("500000000002", "", "akak" + times(10, "k") + "l");
    x.set(HORSE, WAITS);
    x.seen(2, 1);
    x.seen(46, 11);
    is("rooms", x.might(1), 448);
    is("ask", x.ask(), 47);
  }

  static void promise27_room8_isAmongThem() {
    // rooms 6 to 8 fit; behind minute 5 rooms 6 and 7 are on the way back, room 8 is done
    MilkHorse x = street("053", "", "bc");
    x.seen(3, 2);
    is("rooms", x.might(1), 448);
    is("ask", x.ask(), 5);
  }

  static void promise27_roomThatIs_stays() {
    onlyAnswers("ask", Boundaries::busy, x -> x.ask(), busy().ask());
  }

  // ---- promise 28: chance

  static void promise28_cBelow0OrAbove16_isTheLeastLongAnd2More() {
    outside("chance above", 0, 16, (x, v) -> x.chance(v, 0, 0), LONG_BAD);
    outside("chance below", 0, 16, (x, v) -> x.chance(v, 0, 1), LONG_BAD);
  }

  static void promise28_doorBelow0OrAbove11_isTheLeastLongAnd2More() {
    outside("chance", 0, 11, (x, v) -> x.chance(5, v, 0), LONG_BAD);
  }

  static void promise28_whatBelow0OrAbove1_isTheLeastLongAnd2More() {
    outside("chance", 0, 1, (x, v) -> x.chance(5, 0, v), LONG_BAD);
  }

  static void promise28_noEvents_is1By1Or0By1() {
    MilkHorse x = street("11", "", "a");
    for (int c = 0; c <= 16; c++) {
      chance(x, c, 0, 1, 1);
      chance(x, c, 1, 0, 1);
      chance(x, c, 11, 1, 1);
    }
  }

  static void promise28_c0_noEventIs() {
    chance(oneDog(), 0, 11, 1, 1);
    chance(eightDogs(), 0, 11, 1, 1);
  }

  static void promise28_c16_eachEventIs() {
    chance(oneDog(), 16, 11, 0, 1);
    chance(eightDogs(), 16, 11, 0, 1);
    chance(eightDogs(), 16, 0, 1, 1);
  }

  static void promise28_oneEvent_isInLowestTerms() {
    chance(oneDog(), 1, 11, 15, 16);
    chance(oneDog(), 2, 11, 7, 8);
    chance(oneDog(), 4, 11, 3, 4);
    chance(oneDog(), 8, 11, 1, 2);
    chance(oneDog(), 12, 11, 1, 4);
    chance(oneDog(), 15, 11, 1, 16);
  }

  static void promise28_eightEvents_areExact() {
    chance(eightDogs(), 1, 11, 2562890625L, 4294967296L);
    chance(eightDogs(), 5, 11, 214358881L, 4294967296L);
    chance(eightDogs(), 15, 11, 1, 4294967296L);
  }

  static void promise28_eightEvents_areInLowestTerms() {
    chance(eightDogs(), 2, 11, 5764801, 16777216);
    chance(eightDogs(), 8, 11, 1, 256);
    chance(eightDogs(), 12, 11, 1, 65536);
  }

  static void promise28_eightEventsThatDoNotMatter_are1By1() {
    MilkHorse x = withEvents(street("1", "", "a"), 8, CAT, 40, 0);
    for (int c = 0; c <= 16; c++) chance(x, c, 0, 1, 1);
  }

  static void promise28_eightEventsAndNoWay_is0By1() {
    MilkHorse x = withEvents(street("1", "", ""), 8, DOG, 0, 0);
    for (int c = 0; c <= 16; c++) chance(x, c, 0, 0, 1);
  }

  static void promise28_twoThatOnlyTogetherMatter_areSummedInLowestTerms() {
    // one of the two dogs may be: 1 less c by 16, squared
    MilkHorse x = longMorning("al");
    x.event(DOG, 46, 11);
    x.event(DOG, 47, 11);
    chance(x, 1, 11, 255, 256);
    chance(x, 4, 11, 15, 16);
    chance(x, 8, 11, 3, 4);
  }

  static void promise28_halfServedDoor_stillWants() {
    MilkHorse x = street("5", "", "a");
    x.set(CART, 4);
    x.event(WHISTLE, 0, 0);
    chance(x, 5, 0, 0, 1);
  }

  static void promise28_events_stay() {
    onlyAnswers("chance", Boundaries::busy, x -> x.chance(5, 0, 1), busy().chance(5, 0, 1));
    is("events", busy().count(2), 2);
  }

  private static MilkHorse oneDog() {
    return withEvents(longMorning(), 1, DOG, 47, 11);
  }

  private static MilkHorse eightDogs() {
    return withEvents(longMorning(), 8, DOG, 47, 11);
  }

  private static void chance(MilkHorse x, int c, int door, long above, long below) {
    is("chance(" + c + ", " + door + ", 0)", x.chance(c, door, 0), above);
    is("chance(" + c + ", " + door + ", 1)", x.chance(c, door, 1), below);
  }

  // ---- promise 29: mornings

  static void promise29_nBelow0OrAbove12_isBad() {
    badOutside("mornings", 0, 12, (x, v) -> x.mornings(7, v, 0));
    badOutside("mornings", 0, 12, (x, v) -> x.mornings(7, v, 1));
  }

  static void promise29_whatBelow0OrAbove1_isBad() {
    badOutside("mornings", 0, 1, (x, v) -> x.mornings(7, 9, v));
  }

  static void promise29_n0_noDoorWantsAny() {
    MilkHorse x = street(times(12, "5"), "", "l");
    is("short", x.mornings(7, 0, 0), 0);
    is("walked", x.mornings(7, 0, 1), 11);
  }

  static void promise29_n12_reachesDoor11() {
    for (int seed = 0; seed < 50; seed++) {
      asTold(seed, 12);
      asTold(seed, 11);
    }
  }

  static void promise29_laterDoors_wantNone() {
    MilkHorse x = street(times(12, "5"), "", "");
    is("seed 0 gives door 0 none, door 1 two", x.mornings(0, 1, 0), 0);
    is("two doors", x.mornings(0, 2, 0), 1);
  }

  static void promise29_leastAndMostSeeds_wrap() {
    // from the least int the first lot is 2, from -1 it is 1, from the most int it is 5
    firstLotIs(LEAST, 2);
    firstLotIs(-1, 1);
    firstLotIs(MOST, 5);
  }

  static void promise29_upper16Bits_areANumberFrom0On() {
    // from 0 the second lot is of 54236, which would be below 0 if it had a sign
    MilkHorse x = street("", "", "b");
    x.set(CART, 2);
    is("two bottles are enough", x.mornings(0, 2, 0), 0);
    x.set(CART, 1);
    is("one is not", x.mornings(0, 2, 0), 1);
    for (int seed : new int[] {LEAST, -1, 0, 1, MOST, -1103515245}) asTold(seed, 12);
  }

  private static void firstLotIs(int seed, int lot) {
    MilkHorse x = street("", "", "a");
    x.set(CART, lot);
    is("enough by " + seed, x.mornings(seed, 1, 0), 0);
    x.set(CART, lot - 1);
    is("one less by " + seed, x.mornings(seed, 1, 0), 1);
  }

  /** The lots worked out in longs, told as wants of another street with the same round. */
  private static void asTold(int seed, int n) {
    StringBuilder wants = new StringBuilder();
    long s = seed & 0xffffffffL;
    for (int i = 0; i < n; i++) {
      s = (1103515245L * s + 12345) % 4294967296L;
      wants.append(s / 65536 % 6);
    }
    MilkHorse told = street(wants.toString(), "", "acelkb");
    MilkHorse x = street("333", "", "acelkb");
    is("short by " + seed, x.mornings(seed, n, 0), told.count(3));
    is("walked by " + seed, x.mornings(seed, n, 1), told.sum(0));
  }

  static void promise29_faultyWants_areReplacedToo() {
    MilkHorse x = street("x", "", "acelkb");
    is("short", x.mornings(7, 9, 0), street("555", "", "acelkb").mornings(7, 9, 0));
    is("walked", x.mornings(7, 9, 1), street("555", "", "acelkb").mornings(7, 9, 1));
  }

  static void promise29_whatIsTold_stays() {
    onlyAnswers("mornings", Boundaries::busy, x -> x.mornings(7, 9, 0), busy().mornings(7, 9, 0));
    MilkHorse x = street("333", "", "abc");
    x.mornings(LEAST, 12, 1);
    is("told", x.told(2, 0), 3);
    is("told", x.told(11, 0), 0);
  }

  static void promise29_sameSeedAgain_isTheSame() {
    MilkHorse x = busy();
    int once = x.mornings(-1, 12, 1);
    x.mornings(12, 12, 1);
    is("again", x.mornings(-1, 12, 1), once);
  }
}
