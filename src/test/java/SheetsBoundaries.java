/** Boundaries of promises 30 to 37: sheets, what is counted, the digest. */
final class SheetsBoundaries extends Boundaries {
  // ---- promise 30: sheet

  static void promise30_sheetBelow0OrAbove3_isBad() {
    badOutside("sheet", 0, 3, (x, v) -> x.sheet(v, INTS, 3));
  }

  static void promise30_formBelow0OrAbove2_isBad() {
    badOutside("sheet", 0, 2, (x, v) -> x.sheet(0, v, 3));
  }

  static void promise30_above60Items_isBad() {
    refused("61", Boundaries::busy, x -> x.sheet(0, INTS, 61), BAD);
    refused("the most", Boundaries::busy, x -> x.sheet(3, INTS, MOST), BAD);
  }

  static void promise30_below0Items_isSize() {
    finds("-1", Boundaries::busy, x -> x.sheet(0, INTS, -1), SIZE);
    finds("the least", Boundaries::busy, x -> x.sheet(0, INTS, LEAST), SIZE);
  }

  static void promise30_below0ItemsOfALostSheet_isSizeAndStaysLost() {
    finds("-1", Boundaries::busy, x -> x.sheet(3, INTS, -1), SIZE);
    MilkHorse x = new MilkHorse();
    x.sheet(0, BYTES, -1);
    is("lose", x.lose(0), NULL);
  }

  static void promise30_badSheetOrForm_isAheadOfSize() {
    refused("sheet 4", Boundaries::busy, x -> x.sheet(4, INTS, -1), BAD);
    refused("sheet -1", Boundaries::busy, x -> x.sheet(-1, INTS, -1), BAD);
    refused("form 3", Boundaries::busy, x -> x.sheet(0, 3, -1), BAD);
    refused("form -1", Boundaries::busy, x -> x.sheet(0, -1, LEAST), BAD);
  }

  static void promise30_0Items_isARowThatIsNotLost() {
    for (int form = 0; form < 3; form++) {
      MilkHorse x = new MilkHorse();
      is("sheet", x.sheet(3, form, 0), 0);
      is("lose", x.lose(3), 0);
    }
  }

  static void promise30_60Items_areThere() {
    for (int form = 0; form < 3; form++) {
      MilkHorse x = new MilkHorse();
      is("sheet", x.sheet(0, form, 60), 60);
      is("put the last", x.put(0, form, 59, 7), 1);
      is("get the last", x.get(0, form, 59), 7);
      is("one more", x.put(0, form, 60, 7), INDEX);
    }
  }

  static void promise30_newRow_has0AtFirst() {
    MilkHorse x = new MilkHorse();
    x.sheet(1, SHORTS, 60);
    for (int i = 0; i < 60; i++) is("get", x.get(1, SHORTS, i), 0);
    is("nothing is found", x.count(8), 0);
  }

  static void promise30_newRowInPlaceOfAFullOne_has0Again() {
    MilkHorse x = new MilkHorse();
    x.sheet(1, INTS, 60);
    for (int i = 0; i < 60; i++) x.put(1, INTS, i, -1);
    is("sheet", x.sheet(1, INTS, 60), 60);
    for (int i = 0; i < 60; i++) is("get", x.get(1, INTS, i), 0);
  }

  static void promise30_shorterRowThenLongerOne_has0Again() {
    MilkHorse x = new MilkHorse();
    makeRow(x, 1, INTS, 1, 2, 3);
    x.sheet(1, INTS, 1);
    is("beyond it", x.get(1, INTS, 1), LEAST);
    x.sheet(1, INTS, 3);
    is("there again", x.get(1, INTS, 2), 0);
  }

  static void promise30_rowOfAnotherForm_isOfThatFormOnly() {
    MilkHorse x = new MilkHorse();
    makeRow(x, 0, INTS, 1);
    is("sheet", x.sheet(0, BYTES, 1), 1);
    is("as ints", x.put(0, INTS, 0, 5), CAST);
    is("as bytes", x.put(0, BYTES, 0, 5), 1);
  }

  static void promise30_otherSheets_stay() {
    MilkHorse x = busy();
    x.sheet(3, BYTES, 2);
    holds("rows", rows(x).equals(rows(busy()).replace("lost;", "form 0: 0 0;")));
  }

  // ---- promise 31: lose

  static void promise31_sheetBelow0OrAbove3_isBad() {
    badOutside("lose", 0, 3, (x, v) -> x.lose(v));
  }

  static void promise31_lostSheet_isNull() {
    finds("lose", Boundaries::busy, x -> x.lose(3), NULL);
  }

  static void promise31_twice_isNullTheSecondTime() {
    for (int s = 0; s < 4; s++) {
      MilkHorse x = new MilkHorse();
      x.sheet(s, INTS, 5);
      is("lose", x.lose(s), 5);
      is("lose again", x.lose(s), NULL);
    }
  }

  static void promise31_sheetOf0Items_had0() {
    MilkHorse x = busy();
    is("lose", x.lose(2), 0);
    is("count(8) stays", x.count(8), 2);
  }

  static void promise31_sheetOf60Items_had60() {
    MilkHorse x = new MilkHorse();
    x.sheet(3, BYTES, 60);
    is("lose", x.lose(3), 60);
  }

  static void promise31_lostSheet_itsItemsAreNotThereAgain() {
    MilkHorse x = busy();
    x.lose(0);
    is("get", x.get(0, INTS, 0), LEAST);
    is("found", x.count(8), 1);
    x.sheet(0, INTS, 3);
    is("get", x.get(0, INTS, 0), 0);
  }

  static void promise31_otherSheets_stay() {
    MilkHorse x = busy();
    x.lose(0);
    holds("rows", rows(x).equals(rows(busy()).replace("form 2: 1 -2 3;", "lost;")));
  }

  // ---- promise 32: put

  static void promise32_sheetBelow0OrAbove3_isBad() {
    badOutside("put", 0, 3, (x, v) -> x.put(v, INTS, 0, 9));
  }

  static void promise32_formBelow0OrAbove2_isBad() {
    badOutside("put", 0, 2, (x, v) -> x.put(0, v, 0, 9));
  }

  static void promise32_lostSheet_isNull() {
    for (int form = 0; form < 3; form++) {
      int f = form;
      finds("put", Boundaries::busy, x -> x.put(3, f, 0, 9), NULL);
    }
  }

  static void promise32_otherForm_isCast() {
    finds("ints as bytes", Boundaries::busy, x -> x.put(0, BYTES, 0, 9), CAST);
    finds("ints as shorts", Boundaries::busy, x -> x.put(0, SHORTS, 0, 9), CAST);
    finds("bytes as ints", Boundaries::busy, x -> x.put(1, INTS, 0, 9), CAST);
    finds("no shorts as bytes", Boundaries::busy, x -> x.put(2, BYTES, 0, 9), CAST);
  }

  static void promise32_itemBelow0OrBehindTheLast_isIndex() {
    for (int i : new int[] {-1, LEAST, 3, 60, MOST}) {
      finds("item " + i, Boundaries::busy, x -> x.put(0, INTS, i, 9), INDEX);
    }
  }

  static void promise32_sheetOf0Items_isIndex() {
    finds("item 0", Boundaries::busy, x -> x.put(2, SHORTS, 0, 9), INDEX);
  }

  static void promise32_badForm_isAheadOfNull() {
    refused("form 3", Boundaries::busy, x -> x.put(3, 3, 0, 9), BAD);
    refused("form -1", Boundaries::busy, x -> x.put(3, -1, 0, 9), BAD);
  }

  static void promise32_badForm_isAheadOfIndex() {
    refused("form 3", Boundaries::busy, x -> x.put(0, 3, 99, 9), BAD);
  }

  static void promise32_null_isAheadOfIndex() {
    finds("item -1", Boundaries::busy, x -> x.put(3, INTS, -1, 9), NULL);
  }

  static void promise32_cast_isAheadOfIndex() {
    finds("item 99", Boundaries::busy, x -> x.put(0, BYTES, 99, 9), CAST);
    finds("item -1", Boundaries::busy, x -> x.put(1, INTS, -1, 9), CAST);
  }

  static void promise32_firstAndLastItem_become() {
    MilkHorse x = busy();
    is("put", x.put(0, INTS, 0, 8), 1);
    is("put", x.put(0, INTS, 2, 9), 1);
    holds("row", rows(x).startsWith("form 2: 8 -2 9;"));
  }

  static void promise32_bytes_keepTheLowest8Bits() {
    keeps(BYTES, 127, 127);
    keeps(BYTES, 128, -128);
    keeps(BYTES, 255, -1);
    keeps(BYTES, 256, 0);
    keeps(BYTES, -128, -128);
    keeps(BYTES, -129, 127);
    keeps(BYTES, MOST, -1);
    keeps(BYTES, LEAST, 0);
  }

  static void promise32_shorts_keepTheLowest16Bits() {
    keeps(SHORTS, 32767, 32767);
    keeps(SHORTS, 32768, -32768);
    keeps(SHORTS, 65535, -1);
    keeps(SHORTS, 65536, 0);
    keeps(SHORTS, -32768, -32768);
    keeps(SHORTS, -32769, 32767);
    keeps(SHORTS, MOST, -1);
    keeps(SHORTS, LEAST, 0);
  }

  static void promise32_ints_keepAllBits() {
    keeps(INTS, MOST, MOST);
    keeps(INTS, LEAST, LEAST);
    keeps(INTS, 65536, 65536);
    keeps(INTS, -1, -1);
  }

  private static void keeps(int form, int v, int want) {
    MilkHorse x = new MilkHorse();
    x.sheet(0, form, 1);
    is("put " + v, x.put(0, form, 0, v), 1);
    is("get of " + v, x.get(0, form, 0), want);
    is("nothing is found", x.count(8), 0);
  }

  // ---- promise 33: get

  static void promise33_sheetBelow0OrAbove3_isTheLeastIntAndNothingFound() {
    outside("get", 0, 3, (x, v) -> x.get(v, INTS, 0), LEAST);
  }

  static void promise33_formBelow0OrAbove2_isTheLeastIntAndNothingFound() {
    outside("get", 0, 2, (x, v) -> x.get(0, v, 0), LEAST);
  }

  static void promise33_lostSheet_isTheLeastIntAnd1Found() {
    getFinds("get", x -> x.get(3, INTS, 0), 1);
  }

  static void promise33_otherForm_isTheLeastIntAnd3Found() {
    getFinds("ints as bytes", x -> x.get(0, BYTES, 0), 3);
    getFinds("bytes as ints", x -> x.get(1, INTS, 0), 3);
    getFinds("no shorts as ints", x -> x.get(2, INTS, 0), 3);
  }

  static void promise33_itemBelow0OrBehindTheLast_isTheLeastIntAnd2Found() {
    for (int i : new int[] {-1, LEAST, 2, 60, MOST}) getFinds("item " + i, x -> x.get(1, BYTES, i), 2);
  }

  static void promise33_sheetOf0Items_isTheLeastIntAnd2Found() {
    getFinds("item 0", x -> x.get(2, SHORTS, 0), 2);
  }

  static void promise33_badForm_isAheadOfNullAndIndex() {
    refused("lost", Boundaries::busy, x -> x.get(3, 3, 0), LEAST);
    refused("no item", Boundaries::busy, x -> x.get(0, -1, 99), LEAST);
  }

  static void promise33_null_isAheadOfIndex() {
    getFinds("item -1", x -> x.get(3, INTS, -1), 1);
  }

  static void promise33_cast_isAheadOfIndex() {
    getFinds("item 99", x -> x.get(0, BYTES, 99), 3);
  }

  /** It answers the least int, and count(8), which was 5, is the number of what is found. */
  private static void getFinds(String call, Call c, int number) {
    MilkHorse x = busy();
    x.sheet(0, INTS, -1);
    is("count(8) ahead of " + call, x.count(8), 5);
    is(call, c.on(x), LEAST);
    is("count(8) behind " + call, x.count(8), number);
    is("digest() behind " + call, x.digest(), busy().digest());
    holds("the sheets stay behind " + call, rows(x).equals(rows(busy())));
  }

  static void promise33_itemThatIsTheLeastInt_isNoFinding() {
    MilkHorse x = new MilkHorse();
    makeRow(x, 0, INTS, LEAST);
    is("get", x.get(0, INTS, 0), LEAST);
    is("count(8)", x.count(8), 0);
  }

  static void promise33_firstAndLastItem_areTold() {
    MilkHorse x = busy();
    is("first", x.get(0, INTS, 0), 1);
    is("last", x.get(0, INTS, 2), 3);
    is("last byte", x.get(1, BYTES, 1), 5);
  }

  // ---- promise 34: copy

  static void promise34_sheetsBelow0OrAbove3_areBad() {
    badOutside("copy from", 0, 3, (x, v) -> x.copy(v, 0, 0, 0, 1));
    badOutside("copy to", 0, 3, (x, v) -> x.copy(0, 0, v, 0, 1));
  }

  static void promise34_badSheet_isAheadOfNull() {
    refused("to 4 from a lost one", Boundaries::busy, x -> x.copy(3, 0, 4, 0, 1), BAD);
    refused("from -1 to a lost one", Boundaries::busy, x -> x.copy(-1, 0, 3, 0, 1), BAD);
  }

  static void promise34_badSheet_isAheadOfIndex() {
    refused("n -1", Boundaries::busy, x -> x.copy(0, 0, 4, 0, -1), BAD);
  }

  static void promise34_lostSheets_areNull() {
    finds("from", Boundaries::busy, x -> x.copy(3, 0, 0, 0, 1), NULL);
    finds("to", Boundaries::busy, x -> x.copy(0, 0, 3, 0, 1), NULL);
    finds("both", Boundaries::busy, x -> x.copy(3, 0, 3, 0, 1), NULL);
  }

  static void promise34_null_isAheadOfIndex() {
    finds("from", Boundaries::busy, x -> x.copy(3, -1, 0, 0, 1), NULL);
    finds("to", Boundaries::busy, x -> x.copy(0, 0, 3, 0, -1), NULL);
    finds("0 items", Boundaries::busy, x -> x.copy(3, 0, 0, 0, 0), NULL);
  }

  static void promise34_unlikeForms_areStore() {
    finds("ints to bytes", Boundaries::busy, x -> x.copy(0, 0, 1, 0, 1), STORE);
    finds("bytes to ints", Boundaries::busy, x -> x.copy(1, 0, 0, 0, 1), STORE);
    finds("shorts to ints", Boundaries::busy, x -> x.copy(2, 0, 0, 0, 0), STORE);
  }

  static void promise34_store_isAheadOfIndex() {
    finds("from -1", Boundaries::busy, x -> x.copy(0, -1, 1, 0, 1), STORE);
    finds("n -1", Boundaries::busy, x -> x.copy(0, 0, 1, 0, -1), STORE);
    finds("n 99", Boundaries::busy, x -> x.copy(0, 0, 1, 0, 99), STORE);
  }

  static void promise34_placeBelow0_isIndex() {
    for (int i : new int[] {-1, LEAST}) {
      finds("from " + i, Boundaries::busy, x -> x.copy(0, i, 0, 0, 1), INDEX);
      finds("to " + i, Boundaries::busy, x -> x.copy(0, 0, 0, i, 1), INDEX);
      finds("none from " + i, Boundaries::busy, x -> x.copy(0, i, 0, 0, 0), INDEX);
      finds("none to " + i, Boundaries::busy, x -> x.copy(0, 0, 0, i, 0), INDEX);
    }
  }

  static void promise34_below0Items_isIndex() {
    finds("n -1", Boundaries::busy, x -> x.copy(0, 1, 0, 1, -1), INDEX);
    finds("n the least", Boundaries::busy, x -> x.copy(0, 0, 0, 0, LEAST), INDEX);
  }

  static void promise34_notSoManyFrom_isIndex() {
    Made made = SheetsBoundaries::rowsOf3And5;
    finds("four of three", made, x -> x.copy(0, 0, 1, 0, 4), INDEX);
    finds("three from 1 on", made, x -> x.copy(0, 1, 1, 0, 3), INDEX);
    finds("one from 3 on", made, x -> x.copy(0, 3, 1, 0, 1), INDEX);
    finds("none from 4 on", made, x -> x.copy(0, 4, 1, 0, 0), INDEX);
  }

  static void promise34_notSoManyTo_isIndex() {
    Made made = SheetsBoundaries::rowsOf3And5;
    finds("four to three", made, x -> x.copy(1, 0, 0, 0, 4), INDEX);
    finds("three to 1 on", made, x -> x.copy(1, 0, 0, 1, 3), INDEX);
    finds("one to 3 on", made, x -> x.copy(1, 0, 0, 3, 1), INDEX);
    finds("none to 4 on", made, x -> x.copy(1, 0, 0, 4, 0), INDEX);
  }

  static void promise34_numbersWhoseSumWraps_areIndex() {
    Made made = SheetsBoundaries::rowsOf3And5;
    finds("n the most", made, x -> x.copy(0, 1, 1, 0, MOST), INDEX);
    finds("n the most to", made, x -> x.copy(0, 0, 1, 1, MOST), INDEX);
    finds("from the most", made, x -> x.copy(0, MOST, 1, 0, 1), INDEX);
    finds("to the most", made, x -> x.copy(0, 0, 1, MOST, 1), INDEX);
    finds("all the most", made, x -> x.copy(0, MOST, 1, MOST, MOST), INDEX);
  }

  static void promise34_0Items_areFineUpToTheEnds() {
    onlyAnswers("at the beginnings", SheetsBoundaries::rowsOf3And5, x -> x.copy(0, 0, 1, 0, 0), 1);
    onlyAnswers("at the ends", SheetsBoundaries::rowsOf3And5, x -> x.copy(0, 3, 1, 5, 0), 1);
  }

  static void promise34_0ItemsOfRowsOf0Items_areFine() {
    onlyAnswers("copy", Boundaries::busy, x -> x.copy(2, 0, 2, 0, 0), 1);
    finds("one of them", Boundaries::busy, x -> x.copy(2, 0, 2, 0, 1), INDEX);
  }

  static void promise34_asManyAsThereAre_come() {
    MilkHorse x = rowsOf3And5();
    is("copy", x.copy(0, 0, 1, 2, 3), 1);
    holds("rows", rows(x).startsWith("form 2: 1 2 3; form 2: 4 5 1 2 3; "));
    MilkHorse y = rowsOf3And5();
    is("copy", y.copy(1, 2, 0, 0, 3), 1);
    holds("rows", rows(y).startsWith("form 2: 6 7 8; form 2: 4 5 6 7 8; "));
  }

  static void promise34_60Items_comeAtOnce() {
    for (int form = 0; form < 3; form++) {
      MilkHorse x = new MilkHorse();
      x.sheet(0, form, 60);
      x.sheet(3, form, 60);
      for (int i = 0; i < 60; i++) x.put(0, form, i, i + 1);
      is("copy", x.copy(0, 0, 3, 0, 60), 1);
      for (int i = 0; i < 60; i++) is("get", x.get(3, form, i), i + 1);
    }
  }

  static void promise34_sameSheetForward_asTheyWere() {
    MilkHorse x = rowsOf3And5();
    is("copy", x.copy(1, 0, 1, 1, 4), 1);
    holds("row", rows(x).contains("form 2: 4 4 5 6 7;"));
  }

  static void promise34_sameSheetBackward_asTheyWere() {
    MilkHorse x = rowsOf3And5();
    is("copy", x.copy(1, 1, 1, 0, 4), 1);
    holds("row", rows(x).contains("form 2: 5 6 7 8 8;"));
  }

  static void promise34_sameSheetSamePlace_stays() {
    onlyAnswers("copy", SheetsBoundaries::rowsOf3And5, x -> x.copy(1, 0, 1, 0, 5), 1);
  }

  static void promise34_sheetFrom_stays() {
    MilkHorse x = rowsOf3And5();
    x.copy(0, 0, 1, 0, 1);
    x.put(1, INTS, 0, 99);
    is("get", x.get(0, INTS, 0), 1);
  }

  private static MilkHorse rowsOf3And5() {
    MilkHorse x = new MilkHorse();
    makeRow(x, 0, INTS, 1, 2, 3);
    makeRow(x, 1, INTS, 4, 5, 6, 7, 8);
    return x;
  }

  // ---- promise 35: write

  static void promise35_whatBelow0OrAbove1_isBad() {
    badOutside("write", 0, 1, (x, v) -> x.write(v, 0));
  }

  static void promise35_sheetBelow0OrAbove3_isBad() {
    badOutside("write", 0, 3, (x, v) -> x.write(0, v));
  }

  static void promise35_lostSheet_isNull() {
    finds("write", Boundaries::busy, x -> x.write(0, 3), NULL);
    finds("write", Boundaries::busy, x -> x.write(1, 3), NULL);
  }

  static void promise35_badWhat_isAheadOfNull() {
    refused("what 2", Boundaries::busy, x -> x.write(2, 3), BAD);
    refused("what -1", Boundaries::busy, x -> x.write(-1, 3), BAD);
  }

  static void promise35_sheetOf0Items_takesNone() {
    onlyAnswers("write", Boundaries::busy, x -> x.write(0, 2), 0);
  }

  static void promise35_sheetOf1Item_takesMinute0() {
    MilkHorse x = street("", "", "l");
    x.sheet(0, BYTES, 1);
    is("write", x.write(0, 0), 1);
    is("get", x.get(0, BYTES, 0), 1);
  }

  static void promise35_sheetOf47Items_takes47() {
    writes(47, 47);
  }

  static void promise35_sheetOf48Items_takesAllMinutes() {
    writes(48, 48);
  }

  static void promise35_sheetOf49To60Items_takes48TheOthersStay() {
    writes(49, 48);
    writes(60, 48);
  }

  /** All items are 77 at first; the man is at door 11 behind minutes 10 to 47. */
  private static void writes(int items, int want) {
    for (int form = 0; form < 3; form++) {
      MilkHorse x = street("", "", "l");
      x.sheet(1, form, items);
      for (int i = 0; i < items; i++) x.put(1, form, i, 77);
      is("write", x.write(0, 1), want);
      for (int i = 0; i < items; i++) is("get " + i, x.get(1, form, i), i < want ? Math.min(i + 1, 11) : 77);
    }
  }

  static void promise35_cart_isWrittenToo() {
    MilkHorse x = street("", "", "l");
    x.sheet(0, INTS, 48);
    is("write", x.write(1, 0), 48);
    is("behind 0", x.get(0, INTS, 0), 0);
    is("behind 1", x.get(0, INTS, 1), 1);
    is("behind 47", x.get(0, INTS, 47), 10);
  }

  static void promise35_formOfTheSheet_stays() {
    MilkHorse x = busy();
    is("write", x.write(0, 1), 2);
    is("as ints", x.put(1, INTS, 0, 1), CAST);
    is("digest", x.digest(), busy().digest());
  }

  // ---- promise 36: count

  static void promise36_whatBelow0OrAbove8_isBad() {
    badOutside("count", 0, 8, (x, v) -> x.count(v));
  }

  static void promise36_doorsInTheRound_0To24() {
    is("none", new MilkHorse().count(0), 0);
    is("full", street("", "", times(24, "a")).count(0), 24);
  }

  static void promise36_doorsInAFaultyRound_are0() {
    is("faulty", street("", "", times(23, "a") + "m").count(0), 0);
  }

  static void promise36_bytesOfAllTexts_0To48() {
    is("none", new MilkHorse().count(1), 0);
    is("full", street(times(12, "1"), times(12, "1"), times(24, "a")).count(1), 48);
  }

  static void promise36_bytesOfFaultyTexts_countToo() {
    is("faulty", street("xyz", "xy", "1").count(1), 6);
  }

  static void promise36_events_0To8() {
    is("none", new MilkHorse().count(2), 0);
    MilkHorse x = withEvents(new MilkHorse(), 9, CAT, 47, 11);
    is("full", x.count(2), 8);
  }

  static void promise36_doorsShort_0To12() {
    is("none", new MilkHorse().count(3), 0);
    is("all", street(times(12, "1"), "", "").count(3), 12);
    is("door 11 alone", street("000000000005", "", "").count(3), 1);
  }

  static void promise36_horseRoomAndCart_atTheirEnds() {
    MilkHorse x = new MilkHorse();
    x.set(HORSE, 0);
    x.set(ROOM, 1);
    x.set(CART, 0);
    is("horse", x.count(4), 0);
    is("room", x.count(5), 1);
    is("cart", x.count(6), 0);
    x.set(HORSE, 2);
    x.set(ROOM, 8);
    x.set(CART, 60);
    is("horse", x.count(4), 2);
    is("room", x.count(5), 8);
    is("cart", x.count(6), 60);
  }

  static void promise36_cartAtFirst_isNotWhatIsLeft() {
    MilkHorse x = street("5", "", "a");
    is("left", x.sum(4), 32);
    is("at first", x.count(6), 40);
  }

  static void promise36_seen_0To8() {
    is("none", new MilkHorse().count(7), 0);
    MilkHorse x = new MilkHorse();
    for (int i = 0; i < 9; i++) x.seen(47, 11);
    is("full", x.count(7), 8);
  }

  static void promise36_beforeAnyFinding_is0() {
    MilkHorse x = new MilkHorse();
    is("new", x.count(8), 0);
    x.sheet(0, INTS, 60);
    x.put(0, INTS, 59, 1);
    x.lose(0);
    is("nothing was wrong", x.count(8), 0);
  }

  static void promise36_badNotAndFull_areNoFindings() {
    MilkHorse x = new MilkHorse();
    x.type(3, 0);
    x.undo(0);
    x.back();
    for (int i = 0; i < 9; i++) x.seen(0, 0);
    x.sheet(0, 0, 61);
    x.get(4, 0, 0);
    is("count(8)", x.count(8), 0);
  }

  static void promise36_eachFinding_hasItsNumber() {
    MilkHorse x = busy();
    x.lose(3);
    is("NULL", x.count(8), 1);
    x.put(0, INTS, 3, 0);
    is("INDEX", x.count(8), 2);
    x.put(0, BYTES, 0, 0);
    is("CAST", x.count(8), 3);
    x.copy(0, 0, 1, 0, 0);
    is("STORE", x.count(8), 4);
    x.sheet(0, INTS, -1);
    is("SIZE", x.count(8), 5);
  }

  static void promise36_latestFinding_staysBehindGoodCalls() {
    MilkHorse x = busy();
    x.sheet(0, INTS, -1);
    x.sheet(3, INTS, 2);
    x.put(3, INTS, 0, 1);
    x.get(3, INTS, 0);
    x.copy(3, 0, 3, 1, 1);
    x.write(0, 3);
    x.lose(3);
    x.type(9, 9);
    is("count(8)", x.count(8), 5);
    x.lose(3);
    is("a later one", x.count(8), 1);
  }

  // ---- promise 37: digest

  static void promise37_newObject_isWorkedOutByHand() {
    MilkHorse x = new MilkHorse();
    is("digest", x.digest(), digestOfNothing());
    is("digest again", x.digest(), digestOfNothing());
  }

  private static long digestOfNothing() {
    long h = mix(17, 0, 0, 0, 0, 1, 4, 40, 0);
    h = mix(h, -1, -1, -1);
    for (int i = 0; i < 24; i++) h = mix(h, -1);
    for (int minute = 0; minute < 48; minute++) h = mix(h, 0, 0, 0, 0, 0);
    for (int door = 0; door < 12; door++) {
      h = mix(h, 0, 0);
      h = mix(h, 0, 0, 0, 0, 0, 0);
      h = mix(h, 0, 63, 1, 1);
    }
    h = mix(h, 0, 0, 0, 0, 40);
    h = mix(h, 0, 0);
    h = mix(h, 0, 0, 0);
    h = mix(h, 1, 0, 0);
    h = mix(h, -1, -1, -1, -1);
    h = mix(h, 0, -1);
    h = mix(h, 0);
    h = mix(h, 7, 510);
    h = mix(h, 0);
    return mix(h, shortBySeed7(), 0);
  }

  private static long mix(long start, long... values) {
    long h = start;
    for (long v : values) h = 31 * h + v;
    return h;
  }

  /** No round is told, so each of the nine doors is short whose lot is not 0. */
  private static int shortBySeed7() {
    int many = 0;
    long s = 7;
    for (int i = 0; i < 9; i++) {
      s = (1103515245L * s + 12345) % 4294967296L;
      if (s / 65536 % 6 != 0) many++;
    }
    return many;
  }

  static void promise37_allThatItAsks_inItsOrder() {
    is("busy", busy().digest(), digestByCalls(busy()));
    is("full", fullStreet().digest(), digestByCalls(fullStreet()));
    is("faulty", street("1x", "1x", "ax").digest(), digestByCalls(street("1x", "1x", "ax")));
    is("eight dogs", withEvents(longMorning(), 8, DOG, 47, 11).digest(),
        digestByCalls(withEvents(longMorning(), 8, DOG, 47, 11)));
  }

  static void promise37_minutes8And30_areTheOnesAsked() {
    for (int minute : new int[] {8, 9, 30, 31}) {
      Made made = () -> withEvents(street("1", "", "a"), 1, CAT, minute, 0);
      is("a cat in " + minute, made.anew().digest(), digestByCalls(made.anew()));
    }
  }

  static void promise37_nineLotsBySeed7_areTheOnesAsked() {
    // door 1 wants two, door 8 five, a tenth lot would be one: he would walk back for that one
    for (String round : new String[] {"i", "bj"}) {
      Made made = () -> {
        MilkHorse x = street("", "", round);
        x.set(HORSE, WAITS);
        x.set(ROOM, 1);
        return x;
      };
      is("round " + round, made.anew().digest(), digestByCalls(made.anew()));
    }
  }

  private static MilkHorse fullStreet() {
    MilkHorse x = street(times(12, "5"), times(12, "5"), times(2, "abcdefghijkl"));
    x.set(ROOM, 8);
    x.set(CART, 60);
    for (int i = 0; i < 8; i++) {
      x.event(i % 3, 3 * i, i);
      x.seen(0, 0);
    }
    return x;
  }

  /** These are 444 calls of the 512, so it is asked of an object of its own. */
  private static long digestByCalls(MilkHorse x) {
    long h = 17;
    for (int what = 0; what <= 7; what++) h = mix(h, x.count(what));
    for (int text = 0; text <= 2; text++) h = mix(h, x.fault(text));
    for (int i = 0; i <= 23; i++) h = mix(h, x.round(i));
    for (int minute = 0; minute <= 47; minute++) {
      for (int what = 0; what <= 4; what++) h = mix(h, x.at(minute, what));
    }
    for (int d = 0; d <= 11; d++) {
      h = mix(h, x.told(d, 0), x.told(d, 1));
      h = mix(h, x.door(8, d, 0), x.door(8, d, 1), x.door(8, d, 2));
      h = mix(h, x.door(30, d, 0), x.door(30, d, 1), x.door(30, d, 2));
      h = mix(h, x.done(d), x.numbers(d), x.chance(5, d, 0), x.chance(5, d, 1));
    }
    h = mix(h, x.sum(0), x.sum(1), x.sum(2), x.sum(3), x.sum(4), x.over(), x.lacks());
    h = mix(h, x.better(0), x.better(1), x.better(2), x.fit(0), x.fit(1), x.fit(2));
    h = mix(h, x.swap(0), x.swap(1), x.swap(2), x.swap(3), x.spare(NONE), x.spare(0));
    return mix(h, x.never(), x.might(0), x.might(1), x.ask(), x.mornings(7, 9, 0), x.mornings(7, 9, 1));
  }

  static void promise37_sheets_doNotChangeIt() {
    MilkHorse x = new MilkHorse();
    makeRow(x, 0, INTS, 1, 2, 3);
    makeRow(x, 3, BYTES, 4);
    is("digest", x.digest(), digestOfNothing());
  }

  static void promise37_findings_doNotChangeIt() {
    MilkHorse x = new MilkHorse();
    for (int s = 0; s < 4; s++) x.lose(s);
    x.sheet(0, 0, -1);
    is("count(8)", x.count(8), 5);
    is("digest", x.digest(), digestOfNothing());
    is("count(8) stays", x.count(8), 5);
  }

  static void promise37_twice_isTheSame() {
    MilkHorse x = fullStreet();
    long once = x.digest();
    is("digest again", x.digest(), once);
  }

  static void promise37_oneByteEventOrSightMore_changesIt() {
    MilkHorse x = new MilkHorse();
    x.type(2, 'm');
    holds("a byte", x.digest() != digestOfNothing());
    MilkHorse y = new MilkHorse();
    y.event(CAT, 47, 11);
    holds("an event", y.digest() != digestOfNothing());
    MilkHorse z = new MilkHorse();
    z.seen(47, 0);
    holds("a sight", z.digest() != digestOfNothing());
  }
}
