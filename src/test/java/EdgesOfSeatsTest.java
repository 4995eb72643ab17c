/** SEATS: each sentence that names a boundary, and each part of the order in which those who wait are looked at. */
public final class EdgesOfSeatsTest {
  private static void dueOfPromises(String what, CountedBuses x, int from, int... want) {
    for (int i = 0; i < want.length; i++) {
      Due.due(what + ": a seat for worker " + (from + i), x.worker(from + i, 3), want[i]);
    }
  }

  // -- bookings

  private static void thirtyBookings() {
    Due.sentence("At most 30 workers have bookings");
    CountedBuses x = Due.worksWithEnds(600, 700);
    for (int w = 0; w < 30; w++) {
      Due.due("workers with bookings", x.count(1), w);
      Due.due("book", x.book(w % 2, w % 3 % 2, 1 + w % 9), w);
    }
    Due.due("the 31st", x.book(0, 0, 1), -3);
    Due.due("the 31st of another bus", x.book(1, 1, 9), -3);
    Due.due("workers with bookings", x.count(1), 30);
    Due.due("bookings so far", x.count(15), 30);
    for (int w = 0; w < 30; w++) {
      Due.due("the shift end of " + w, x.worker(w, 0), w % 2);
      Due.due("the line of " + w, x.worker(w, 1), w % 3 % 2);
      Due.due("the stop of " + w, x.worker(w, 2), 1 + w % 9);
    }
    x.takeBack(29);
    Due.due("there is room for one", x.book(0, 0, 1), 30);
    Due.due("for one alone", x.book(0, 0, 1), -3);
    x.undo();
    Due.due("there is room again", x.book(0, 0, 1), 30);
    Due.due("who stays takes no room", x.stay(30, 1) >= 0 ? 0 : -1, 0);
    Due.due("full as before", x.book(0, 0, 1), -3);
  }

  private static void numbersOfWorkers() {
    Due.sentence("numbered from 0 in the order of booking, never given again");
    CountedBuses x = Due.worksWithEnds(600);
    Due.due("the first one", x.book(0, 0, 9), 0);
    x.takeBack(0);
    Due.due("not 0 again, though nobody has a booking", x.book(0, 0, 1), 1);
    Due.due("the next one", x.book(0, 0, 1), 2);
    x.takeBack(2);
    Due.due("not the latest number again", x.book(0, 0, 1), 3);
    x.takeBack(1);
    Due.due("not the lowest number again", x.book(0, 0, 1), 4);
    int[] gone = {0, 1, 2, 5, -1, 30, Integer.MIN_VALUE, Integer.MAX_VALUE};
    for (int w : gone) {
      Due.due("worker " + w, x.worker(w, 0), -1);
      Due.due("takeBack " + w, x.takeBack(w), -1);
      Due.due("stay of " + w, x.stay(w, 0), -1);
    }
    Due.due("an error gives no number", x.book(1, 0, 1), -1);
    Due.typeText(x, "0a12");
    Due.due("bookAll", x.bookAll(), 2);
    Due.due("the first of the text", x.worker(5, 2), 1);
    Due.due("the second of the text", x.worker(6, 2), 2);
    Due.due("the next one", x.book(0, 0, 1), 7);

    CountedBuses all = Due.worksWithEnds(600);
    for (int w = 0; w < 30; w++) {
      all.book(0, 0, 1);
    }
    for (int w = 0; w < 30; w++) {
      all.takeBack(w);
    }
    Due.due("nobody is left", all.count(1), 0);
    Due.due("the 31st number", all.book(0, 0, 1), 30);
  }

  // -- seats that are left

  private static void ridersOnAStretch() {
    Due.sentence("of the booked riders of a bus those who go at least as far as the stop s are on it between s - 1 and s");
    for (int stop = 1; stop <= 9; stop++) {
      CountedBuses x = Due.worksWithEnds(600);
      x.book(0, 0, stop);
      for (int stretch = 1; stretch <= 9; stretch++) {
        Due.due("a rider to " + stop + " on the stretch to " + stretch, x.taken(0, 0, stretch), stretch <= stop ? 1 : 0);
        Due.due("on the other line", x.taken(1, 0, stretch), 0);
      }
    }
  }

  private static void fewerThanItsSeats() {
    Due.sentence("a bus has a seat left as far as the stop s if on each stretch from 0 to s fewer than its seats are taken");
    for (int rider = 1; rider <= 9; rider++) {
      CountedBuses x = Due.worksWithEnds(600);
      x.set(1, 2);
      x.book(0, 0, rider);
      for (int stop = 1; stop <= 9; stop++) {
        Due.due("one of two seats is taken to " + rider + ", asked to " + stop, x.why(0, 0, stop), 0);
      }
      x.book(0, 0, rider);
      for (int stop = 1; stop <= 9; stop++) {
        Due.due("both seats are taken to " + rider + ", asked to " + stop, x.why(0, 0, stop), 2);
      }
      x.set(1, 1);
      Due.due("more are taken than there are seats", x.why(0, 0, 9), 2);
      x.takeBack(0);
      Due.due("as many are taken as there are seats", x.why(0, 0, 9), 2);
      x.takeBack(1);
      Due.due("none is taken", x.why(0, 0, 9), 0);
    }
  }

  private static void whoWaitsTakesNoSeat() {
    Due.sentence("Riders who have promises alone take seats.");
    CountedBuses x = Due.worksWithEnds(600);
    x.set(3, 10);
    for (int w = 0; w < 20; w++) {
      x.book(0, 0, 9); // all are late
    }
    Due.due("taken", x.taken(0, 0, 1), 0);
    Due.due("riders", x.bus(0, 0, 2), 0);
    Due.due("those who wait", x.bus(0, 0, 3), 20);
    Due.due("a seat is left", x.why(0, 0, 2), 0);
    x.book(0, 0, 2);
    Due.due("and promised", x.worker(20, 3), 1);
  }

  private static void afterMerging() {
    Due.sentence("A booking is promised if the bus that serves the shift end and line (after merging) has a seat left as far"
        + " as the stop");
    CountedBuses x = Due.worksWithEnds(600, 610);
    x.set(1, 1);
    x.book(0, 0, 1);
    Due.due("the other bus ahead of merging", x.why(0, 1, 9), 0);
    x.merge(0, 0, 1);
    Due.due("the same bus after it", x.why(0, 1, 9), 2);
    x.book(1, 0, 9);
    dueOfPromises("merged", x, 0, 1, 0);
    x.part(0, 0);
    dueOfPromises("parted", x, 0, 1, 1);
  }

  // -- reasons

  private static void orderOfReasons() {
    Due.sentence("The reasons for which a seat is not promised are asked in this order: 1 there is no such shift end; 2 the"
        + " bus has no seat left as far as the stop; 3 the worker would come to the stop later than the setting 3 (10 to"
        + " 300 minutes; 90 at first) behind the own shift end; 0 it can be promised.");
    CountedBuses x = Due.worksWithEnds(600);
    x.set(1, 1);
    x.set(3, 10);
    Due.due("no such shift end, and late", x.why(0, 1, 9), 1);
    Due.due("late alone", x.why(0, 0, 3), 3);
    Due.due("nothing", x.why(0, 0, 2), 0);
    x.book(0, 0, 2);
    Due.due("full and late", x.why(0, 0, 3), 2);
    Due.due("full alone", x.why(0, 0, 2), 2);
    x.book(0, 0, 3);
    x.book(0, 0, 2);
    Due.due("worker: the own seat does not count", x.worker(0, 5), 0);
    Due.due("worker: full and late", x.worker(1, 5), 2);
    Due.due("worker: full alone", x.worker(2, 5), 2);
    x.takeBack(0);
    Due.due("worker: full by another one, and late", x.worker(1, 5), 2);
    Due.due("worker: nothing", x.worker(2, 5), 0);
    x.takeBack(2);
    Due.due("worker: late alone", x.worker(1, 5), 3);
  }

  private static void dueOfLateness(int perStretch, int apart, int stop, int most) {
    CountedBuses x = Due.worksWithEnds(600, 600 + apart);
    x.set(0, perStretch);
    x.set(2, 120);
    x.set(3, most);
    x.merge(0, 0, 1);
    int behind = apart + stop * perStretch;
    String what = " when " + behind + " behind of " + most;
    Due.due("why" + what, x.why(0, 0, stop), behind <= most ? 0 : 3);
    x.book(0, 0, stop);
    dueOfPromises("book" + what, x, 0, behind <= most ? 1 : 0);
    Due.due("worker's reason" + what, x.worker(0, 5), behind <= most ? 0 : 3);
    Due.due("worker's minutes", x.worker(0, 4), behind);
  }

  private static void laterThanTheSetting() {
    Due.sentence("later than the setting 3 (10 to 300 minutes; 90 at first) behind the own shift end");
    Due.due("90 at first", new CountedBuses().count(14), 90);
    int[] mosts = {10, 11, 44, 45, 46, 89, 90, 91, 299, 300};
    for (int most : mosts) {
      dueOfLateness(5, 0, 9, most);
      dueOfLateness(10, 0, 1, most);
      dueOfLateness(11, 0, 1, most);
      dueOfLateness(20, 120, 9, most);
      dueOfLateness(20, 119, 9, most);
      dueOfLateness(5, 40, 1, most);
      dueOfLateness(5, 85, 1, most);
      dueOfLateness(5, 86, 1, most);
    }
    CountedBuses x = Due.worksWithEnds(600, 620);
    x.set(3, 10);
    x.merge(0, 0, 1);
    Due.due("the later one does not wait", x.why(0, 1, 2), 0);
    Due.due("the earlier one waits for 20", x.why(0, 0, 1), 3);
  }

  private static void pastMidnight() {
    Due.sentence("the minutes behind the own shift end at which the bus is at the stop");
    CountedBuses x = Due.worksWithEnds(1439, 1400);
    Due.due("a bus that comes after midnight", x.why(0, 0, 9), 0);
    x.set(2, 120);
    x.merge(0, 0, 1);
    x.book(1, 0, 9);
    Due.due("minutes behind", x.worker(0, 4), 39 + 45);
    dueOfPromises("past midnight", x, 0, 1);
  }

  // -- when those who wait are looked at

  /** One seat, taken by worker 0; worker 1 waits for it. */
  private static CountedBuses oneSeatAndOneWho() {
    CountedBuses x = Due.worksWithEnds(600, 620);
    x.set(1, 1);
    x.book(0, 0, 4);
    x.book(0, 0, 4);
    dueOfPromises("one seat", x, 0, 1, 0);
    return x;
  }

  private static void whenTheyAreLookedAt() {
    Due.sentence("Whenever a booking is taken back or changed, buses are merged or parted, or the settings 0, 1 or 3 are"
        + " changed, all who wait are looked at once");
    CountedBuses back = oneSeatAndOneWho();
    Due.due("takeBack", back.takeBack(0), 0);
    dueOfPromises("a booking is taken back", back, 1, 1);

    CountedBuses changed = oneSeatAndOneWho();
    Due.due("stay", changed.stay(0, 1), 1);
    dueOfPromises("a booking is changed", changed, 0, 1, 1);

    CountedBuses parted = Due.worksWithEnds(600, 620);
    parted.set(1, 1);
    parted.merge(0, 0, 1);
    parted.book(0, 0, 4);
    parted.book(1, 0, 4);
    dueOfPromises("merged", parted, 0, 1, 0);
    Due.due("part", parted.part(0, 1), 0);
    dueOfPromises("buses are parted", parted, 0, 1, 1);

    CountedBuses slow = Due.worksWithEnds(600);
    slow.set(3, 19);
    slow.book(0, 0, 4);
    dueOfPromises("20 minutes", slow, 0, 0);
    slow.set(0, 4);
    dueOfPromises("the setting 0 is changed", slow, 0, 1);

    CountedBuses seats = oneSeatAndOneWho();
    seats.set(1, 2);
    dueOfPromises("the setting 1 is changed", seats, 0, 1, 1);

    CountedBuses late = Due.worksWithEnds(600);
    late.set(3, 19);
    late.book(0, 0, 4);
    dueOfPromises("20 minutes", late, 0, 0);
    late.set(3, 20);
    dueOfPromises("the setting 3 is changed", late, 0, 1);

    CountedBuses merged = oneSeatAndOneWho();
    Due.due("merge", merged.merge(0, 0, 1), 620);
    dueOfPromises("merging makes no seat", merged, 0, 1, 0);
  }

  /** What says nothing of looking lets nobody in. */
  private static void whatLetsNobodyIn() {
    CountedBuses x = oneSeatAndOneWho();
    x.addEnd(640);
    x.book(1, 0, 1);
    x.set(2, 31);
    x.passDay();
    x.keep();
    x.restore();
    x.part(0, 0);
    dueOfPromises("the seat is taken as before", x, 0, 1, 0);
  }

  /** All who wait, wherever a seat came to be: on both lines, at the first and at the last shift end. */
  private static void allWhoWait() {
    Due.sentence("all who wait are looked at once, one after the other");
    CountedBuses x = Due.worksWithEnds(600, 0, 1439, 600, 700, 700, 30, 40, 50, 1000);
    x.set(3, 10);
    for (int w = 0; w < 20; w++) {
      x.book(w / 2, w % 2, 3);
    }
    Due.due("all wait", x.count(3), 20);
    x.set(3, 15);
    Due.due("all have seats", x.count(2), 20);
    for (int w = 0; w < 20; w++) {
      Due.due("worker " + w, x.worker(w, 3), 1);
    }
  }

  /** As many as there can be: thirty who wait are looked at, the last one too. */
  private static void thirtyWhoWait() {
    Due.sentence("all who wait are looked at once, one after the other");
    for (int seats = 28; seats <= 30; seats++) {
      CountedBuses x = Due.worksWithEnds(600);
      x.set(1, seats);
      x.set(3, 10);
      for (int w = 0; w < 30; w++) {
        x.book(0, 0, 9);
      }
      Due.due("all wait", x.count(3), 30);
      x.set(3, 45);
      Due.due("promises of " + seats + " seats", x.count(2), seats);
      for (int w = 27; w < 30; w++) {
        Due.due("worker " + w + " of " + seats + " seats", x.worker(w, 3), w < seats ? 1 : 0);
      }
    }
  }

  // -- the order

  /** The bus of both shift ends has one seat, taken by worker 0; then these wait, and the seat is given up. */
  private static CountedBuses afterTheSeatIsGivenUp(int minute, int other, int[][] endsAndStops) {
    CountedBuses x = Due.worksWithEnds(minute, other);
    x.set(1, 1);
    x.merge(1, 0, 1);
    x.book(0, 1, 9);
    for (int[] one : endsAndStops) {
      x.book(one[0], 1, one[1]);
    }
    Due.due("takeBack(0)", x.takeBack(0), endsAndStops.length - 1);
    return x;
  }

  private static void byRisingMinutes() {
    Due.sentence("by rising minutes of their shift ends");
    dueOfPromises("the earlier minute", afterTheSeatIsGivenUp(620, 600, new int[][] {{0, 1}, {1, 9}}), 1, 0, 1);
    dueOfPromises("the earlier minute", afterTheSeatIsGivenUp(600, 620, new int[][] {{1, 1}, {0, 9}}), 1, 0, 1);
    dueOfPromises("by one minute", afterTheSeatIsGivenUp(601, 600, new int[][] {{0, 1}, {1, 2}}), 1, 0, 1);
  }

  private static void byNumbersOfShiftEnds() {
    Due.sentence("of several by the numbers of these");
    dueOfPromises("the lower shift end", afterTheSeatIsGivenUp(600, 600, new int[][] {{1, 1}, {0, 9}}), 1, 0, 1);
    dueOfPromises("the lower shift end", afterTheSeatIsGivenUp(600, 600, new int[][] {{0, 9}, {1, 1}}), 1, 1, 0);
  }

  private static void byNearerStops() {
    Due.sentence("then by the nearer stops first");
    dueOfPromises("the nearer stop", afterTheSeatIsGivenUp(600, 620, new int[][] {{0, 3}, {0, 2}, {0, 9}}), 1, 0, 1, 0);
    dueOfPromises("of the later end", afterTheSeatIsGivenUp(600, 620, new int[][] {{1, 9}, {1, 8}, {1, 7}}), 1, 0, 0, 1);
    dueOfPromises("1 and 9", afterTheSeatIsGivenUp(600, 600, new int[][] {{1, 9}, {1, 1}}), 1, 0, 1);
  }

  private static void byOwnNumbers() {
    Due.sentence("then by their own numbers");
    dueOfPromises("the lower number", afterTheSeatIsGivenUp(600, 620, new int[][] {{0, 3}, {0, 3}, {0, 3}}), 1, 1, 0, 0);
    // The row of a booking that was taken back may be used again, but who came later has the greater number.
    CountedBuses x = Due.worksWithEnds(600);
    x.set(1, 1);
    x.book(0, 1, 5);
    x.book(0, 0, 9);
    x.book(0, 0, 3);
    x.takeBack(0);
    Due.due("the later one", x.book(0, 0, 3), 3);
    dueOfPromises("both wait", x, 2, 0, 0);
    Due.due("takeBack(1)", x.takeBack(1), 1);
    dueOfPromises("the lower number, not the lower row", x, 2, 1, 0);
  }

  /** Seats for two of five; the order is told by every part of it. */
  private static void severalSeatsAtOnce() {
    Due.sentence("each one whose reason is 0 then is promised the seat");
    CountedBuses x = Due.worksWithEnds(610, 600);
    x.set(1, 1);
    x.merge(0, 0, 1);
    x.book(0, 0, 5); // 0 has the seat
    int[][] waiting = {{0, 1}, {1, 4}, {1, 3}, {0, 1}, {1, 3}}; // looked at: 3, 5, 2, 1, 4
    for (int[] one : waiting) {
      x.book(one[0], 0, one[1]);
    }
    x.set(1, 2);
    dueOfPromises("one more seat", x, 0, 1, 0, 0, 1, 0, 0);
    x.set(1, 4);
    dueOfPromises("two more", x, 0, 1, 0, 1, 1, 0, 1);
    x.set(1, 5);
    dueOfPromises("one more", x, 0, 1, 1, 1, 1, 0, 1);
    x.set(1, 6);
    dueOfPromises("one more", x, 0, 1, 1, 1, 1, 1, 1);
  }

  private static void whoIsLateLetsOthersGo() {
    Due.sentence("each one whose reason is 0 then is promised the seat");
    CountedBuses x = Due.worksWithEnds(600, 630);
    x.set(1, 1);
    x.set(3, 40);
    x.merge(0, 0, 1);
    x.book(1, 0, 1); // 0 has the seat
    x.book(0, 0, 3); // 1 is looked at first, but late: 30 to wait and 15 to ride
    x.book(1, 0, 9); // 2 is late: 45 to ride
    x.book(1, 0, 8); // 3 is just in time
    Due.due("takeBack(0)", x.takeBack(0), 2);
    dueOfPromises("those who are late go on waiting", x, 1, 0, 0, 1);
  }

  private static void seatsTakenInTheSameLook() {
    Due.sentence("all who wait are looked at once, one after the other");
    CountedBuses x = Due.worksWithEnds(600);
    x.set(1, 2);
    x.set(3, 10);
    for (int w = 0; w < 4; w++) {
      x.book(0, 0, 9 - w);
    }
    x.set(3, 300);
    dueOfPromises("the two nearest of four", x, 0, 0, 0, 1, 1);
  }

  /** Who changes the shift end gives the seat up and is looked at in turn, neither first nor last. */
  private static void whoStaysIsLookedAtInTurn() {
    Due.sentence("Changes the shift end of a worker, who gives the seat up and waits for one of that shift end; then all who"
        + " wait are looked at.");
    CountedBuses behind = Due.worksWithEnds(600, 610);
    behind.set(1, 1);
    behind.merge(0, 0, 1);
    behind.book(0, 0, 5);
    behind.book(1, 0, 4);
    Due.due("another one's stop is nearer", behind.stay(0, 1), 0);
    dueOfPromises("the seat is gone", behind, 0, 0, 1);

    CountedBuses ahead = Due.worksWithEnds(600, 610);
    ahead.set(1, 1);
    ahead.merge(0, 0, 1);
    ahead.book(0, 0, 5);
    ahead.book(1, 0, 6);
    Due.due("the own stop is nearer", ahead.stay(0, 1), 1);
    dueOfPromises("the seat is kept", ahead, 0, 1, 0);

    CountedBuses same = Due.worksWithEnds(600, 610);
    same.set(1, 1);
    same.book(1, 0, 5);
    same.book(0, 0, 5);
    same.book(0, 0, 5);
    Due.due("the other bus is full", same.stay(2, 1), 0);
    Due.due("taken back there", same.takeBack(0), 0);
    dueOfPromises("the one who stayed has it", same, 1, 1, 1);

    CountedBuses late = Due.worksWithEnds(600, 630);
    late.set(3, 50);
    late.merge(0, 0, 1);
    late.book(1, 0, 5);
    Due.due("late from the earlier end", late.stay(0, 0), 0);
    Due.due("why", late.worker(0, 5), 3);
    Due.due("back again", late.stay(0, 1), 1);
  }

  private static void promisesAreNeverTakenBack() {
    Due.sentence("Promises are never taken back by that.");
    CountedBuses x = Due.worksWithEnds(600, 610);
    for (int w = 0; w < 6; w++) {
      x.book(0, 0, 9);
    }
    x.book(0, 0, 1); // 6 waits
    x.book(1, 0, 9); // 7
    x.set(1, 1);
    dueOfPromises("fewer seats", x, 0, 1, 1, 1, 1, 1, 1, 0, 1);
    x.set(0, 20);
    dueOfPromises("slower", x, 0, 1, 1, 1, 1, 1, 1, 0, 1);
    x.set(3, 10);
    dueOfPromises("less time", x, 0, 1, 1, 1, 1, 1, 1, 0, 1);
    x.takeBack(7);
    dueOfPromises("a booking is taken back", x, 0, 1, 1, 1, 1, 1, 1, 0);
    x.passDay();
    dueOfPromises("a day", x, 0, 1, 1, 1, 1, 1, 1, 0);
    Due.due("riders", x.bus(0, 0, 2), 6);
    Due.due("stay", x.stay(6, 1), 0);
    dueOfPromises("a booking is changed", x, 0, 1, 1, 1, 1, 1, 1, 0);
    x.merge(1, 0, 1);
    x.part(1, 0);
    dueOfPromises("merged and parted", x, 0, 1, 1, 1, 1, 1, 1, 0);
    x.takeBack(0);
    Due.due("six riders are one less, but more than the seats", x.bus(0, 0, 2), 5);

    CountedBuses parted = Due.worksWithEnds(600, 610);
    parted.set(1, 1);
    parted.merge(0, 0, 1);
    parted.book(1, 0, 1);
    parted.book(1, 0, 2);
    parted.book(0, 0, 2);
    parted.part(0, 0);
    dueOfPromises("parted", parted, 0, 1, 0, 1);
  }

  // -- sentences without a boundary

  private static void eachHasItsOwn() {
    Due.sentence("each has a shift end, a line and a stop");
    CountedBuses x = Due.worksWithEnds(600, 700, 800, 900, 1000);
    for (int w = 0; w < 30; w++) {
      x.book(w % 5, w / 5 % 2, 1 + w * 7 % 9);
    }
    for (int w = 0; w < 30; w += 2) {
      x.takeBack(w);
    }
    for (int w = 1; w < 30; w += 2) {
      Due.due("the shift end of " + w, x.worker(w, 0), w % 5);
      Due.due("the line of " + w, x.worker(w, 1), w / 5 % 2);
      Due.due("the stop of " + w, x.worker(w, 2), 1 + w * 7 % 9);
    }
  }

  private static void whoIsNotPromisedWaits() {
    Due.sentence("Who is not promised a seat waits.");
    CountedBuses x = Due.worksWithEnds(600, 700);
    x.set(1, 4);
    x.set(3, 40);
    for (int w = 0; w < 20; w++) {
      x.book(w % 2, 0, 5 + w % 5); // every fifth one is late
    }
    int waiting = 0;
    for (int w = 0; w < 20; w++) {
      waiting += 1 - x.worker(w, 3);
    }
    Due.due("those without a promise", waiting, 12);
    Due.due("wait", x.count(3), waiting);
    Due.due("for their buses", x.bus(0, 0, 3) + x.bus(0, 1, 3), waiting);
    Due.due("all others have promises", x.count(2), 20 - waiting);
    x.passDay();
    for (int w = 0; w < 20; w++) {
      Due.due("who waits walks, worker " + w, x.worker(w, 8), 1 - x.worker(w, 3));
    }
  }

  /** Those of one line take no seat from those of the other one, so whoever comes first has the own line's seat. */
  private static void byLines() {
    Due.sentence("then by lines, then by the nearer stops first");
    CountedBuses x = Due.worksWithEnds(600);
    x.set(1, 1);
    x.set(3, 10);
    x.book(0, 1, 3);
    x.book(0, 0, 9);
    x.book(0, 1, 4);
    x.book(0, 0, 8);
    x.set(3, 300);
    dueOfPromises("the nearer stop of each line", x, 0, 1, 0, 0, 1);
    Due.due("takeBack(0)", x.takeBack(0), 1);
    dueOfPromises("the one of the same line", x, 1, 0, 1, 1);
  }

  public static void main(String[] args) {
    thirtyBookings();
    numbersOfWorkers();
    ridersOnAStretch();
    fewerThanItsSeats();
    whoWaitsTakesNoSeat();
    afterMerging();
    orderOfReasons();
    laterThanTheSetting();
    pastMidnight();
    whenTheyAreLookedAt();
    whatLetsNobodyIn();
    allWhoWait();
    thirtyWhoWait();
    byRisingMinutes();
    byNumbersOfShiftEnds();
    byNearerStops();
    byOwnNumbers();
    severalSeatsAtOnce();
    whoIsLateLetsOthersGo();
    seatsTakenInTheSameLook();
    whoStaysIsLookedAtInTurn();
    promisesAreNeverTakenBack();
    eachHasItsOwn();
    whoIsNotPromisedWaits();
    byLines();
    Due.finish();
  }
}
