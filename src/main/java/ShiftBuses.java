/** Buses that bring workers home at the ends of shifts; ../shared/DOC.md tells what each call does. */
public final class ShiftBuses {
  public static final int UNKNOWN = -1;
  public static final int BAD_VALUE = -2;
  public static final int FULL = -3;
  public static final int NOT_POSSIBLE = -4;
  public static final int NONE = -5;

  private static final int LINES = 2;
  private static final int STOPS = 9;
  private static final int MOST_ENDS = 10;
  private static final int MINUTES_OF_DAY = 1440;
  private static final int MOST_WORKERS = 30;
  private static final int MOST_CHARACTERS = 60;
  private static final int MOST_STATES = 4;

  // Everybody gets on at the works, so no stretch of a bus is fuller than its first one.
  private static final int FULLEST_STRETCH = 1;

  private static final int RIDE_MINUTES = 0;
  private static final int SEATS = 1;
  private static final int MOST_APART = 2;
  private static final int MOST_BEHIND = 3;
  private static final int[] FIRST_SETTINGS = {5, 6, 30, 90};
  private static final int[] LEAST_SETTINGS = {1, 1, 0, 10};
  private static final int[] MOST_SETTINGS = {20, 30, 120, 300};

  private static final int CAN_BE_PROMISED = 0;
  private static final int NO_SUCH_END = 1;
  private static final int NO_SEAT_LEFT = 2;
  private static final int TOO_LATE = 3;

  private static final int BUS_COST = 20;
  private static final int BUS_COST_PER_STRETCH = 2;
  private static final int TAXI_COST = 8;
  private static final int TAXI_COST_PER_STRETCH = 3;

  private static final int NO_FAULT = -1;
  private static final int FAULT_BASE = -100;

  private final Works works = new Works();
  private final BookingText text = new BookingText();
  private final History history = new History();
  private final Works snapshot = new Works();
  private boolean hasSnapshot = false;

  public ShiftBuses() {
  }

  // ---- shift ends, bookings

  public int addEnd(int minute) {
    if (minute < 0 || minute >= MINUTES_OF_DAY) {
      return BAD_VALUE;
    }
    if (works.endCount >= MOST_ENDS) {
      return FULL;
    }
    history.remember(works);
    return works.openEnd(minute);
  }

  public int book(int end, int line, int stop) {
    if (!works.hasEnd(end) || !isLine(line) || !isStop(stop)) {
      return UNKNOWN;
    }
    if (works.workerCount() >= MOST_WORKERS) {
      return FULL;
    }
    history.remember(works);
    return works.enter(end, line, stop);
  }

  public int bookAll() {
    int fault = text.read();
    if (fault != NO_FAULT) {
      return FAULT_BASE - fault;
    }
    if (!hasAllEnds()) {
      return UNKNOWN;
    }
    if (works.workerCount() + text.wishCount > MOST_WORKERS) {
      return FULL;
    }
    history.remember(works);
    enterAll();
    return text.wishCount;
  }

  public int takeBack(int worker) {
    Booking booking = works.bookingOf(worker);
    if (booking == null) {
      return UNKNOWN;
    }
    history.remember(works);
    booking.clear();
    works.lookAtWaiting();
    return works.waitingCount();
  }

  public int stay(int worker, int end) {
    Booking booking = works.bookingOf(worker);
    if (booking == null || !works.hasEnd(end)) {
      return UNKNOWN;
    }
    if (booking.end == end) {
      return NONE;
    }
    history.remember(works);
    booking.end = end;
    booking.promised = false;
    works.lookAtWaiting();
    return booking.promised ? 1 : 0;
  }

  // ---- buses

  public int merge(int line, int end, int other) {
    int error = mergingError(line, end, other);
    if (error != 0) {
      return error;
    }
    history.remember(works);
    works.tie(line, end, other);
    works.tie(line, other, end);
    works.lookAtWaiting();
    return works.startOf(end, other);
  }

  public int part(int line, int end) {
    if (!isLine(line) || !works.hasEnd(end)) {
      return UNKNOWN;
    }
    int other = works.partnerOf(line, end);
    if (other == NONE) {
      return NONE;
    }
    history.remember(works);
    works.tie(line, end, NONE);
    works.tie(line, other, NONE);
    works.lookAtWaiting();
    return other;
  }

  public int set(int which, int value) {
    if (!isSettingValue(which, value)) {
      return BAD_VALUE;
    }
    int previous = works.setting(which);
    if (previous == value) {
      return NONE;
    }
    history.remember(works);
    works.changeSetting(which, value);
    if (which != MOST_APART) {
      works.lookAtWaiting();
    }
    return previous;
  }

  public int passDay() {
    history.remember(works);
    int taxisBefore = works.taxis;
    works.runBuses();
    works.bringHome();
    works.days++;
    return works.taxis - taxisBefore;
  }

  // ---- texts

  public int type(char character) {
    if (text.length >= MOST_CHARACTERS) {
      return FULL;
    }
    text.append(character);
    return text.length;
  }

  public int clearText() {
    int length = text.length;
    text.length = 0;
    return length;
  }

  // ---- history

  public int undo() {
    if (history.size == 0) {
      return NONE;
    }
    history.takeLatestInto(works);
    return history.size;
  }

  public int keep() {
    snapshot.copyFrom(works);
    hasSnapshot = true;
    return works.workerCount();
  }

  public int restore() {
    if (!hasSnapshot) {
      return NONE;
    }
    history.remember(works);
    works.copyFrom(snapshot);
    return works.workerCount();
  }

  // ---- what is told

  public int worker(int worker, int what) {
    Booking booking = works.bookingOf(worker);
    if (booking == null) {
      return UNKNOWN;
    }
    switch (what) {
      case 0:
        return booking.end;
      case 1:
        return booking.line;
      case 2:
        return booking.stop;
      case 3:
        return booking.promised ? 1 : 0;
      case 4:
        return works.minutesBehind(booking.end, booking.stop, works.startOfBusOf(booking));
      case 5:
        return works.reason(booking.line, booking.end, booking.stop, booking);
      case 6:
        return booking.rides;
      case 7:
        return booking.taxis;
      case 8:
        return booking.walks;
      default:
        return BAD_VALUE;
    }
  }

  public int bus(int line, int end, int what) {
    if (!isLine(line) || !works.hasEnd(end)) {
      return UNKNOWN;
    }
    int other = works.partnerOf(line, end);
    switch (what) {
      case 0:
        return works.startOf(end, other);
      case 1:
        return other;
      case 2:
        return works.takenSeats(line, end, other, FULLEST_STRETCH, null);
      case 3:
        return works.waitingFor(line, end, other);
      case 4:
        return works.farthestPromised(line, end, other);
      case 5:
        return works.costToday(line, end, other);
      default:
        return BAD_VALUE;
    }
  }

  public int taken(int line, int end, int stop) {
    if (!isLine(line) || !works.hasEnd(end) || !isStop(stop)) {
      return UNKNOWN;
    }
    return works.takenSeats(line, end, works.partnerOf(line, end), stop, null);
  }

  public int why(int line, int end, int stop) {
    if (!isLine(line) || !isStop(stop)) {
      return UNKNOWN;
    }
    return works.reason(line, end, stop, null);
  }

  public int spares(int line, int end, int other) {
    int error = mergingError(line, end, other);
    if (error != 0) {
      return error;
    }
    int apart = works.costToday(line, end, NONE) + works.costToday(line, other, NONE);
    return apart - works.costToday(line, end, other);
  }

  public int byMinute(int rank) {
    if (rank < 0) {
      return BAD_VALUE;
    }
    return works.endOfRank(rank);
  }

  public int count(int what) {
    switch (what) {
      case 0:
        return works.endCount;
      case 1:
        return works.workerCount();
      case 2:
        return works.workerCount() - works.waitingCount();
      case 3:
        return works.waitingCount();
      case 4:
        return works.pairCount();
      case 5:
        return works.days;
      case 6:
        return works.rides;
      case 7:
        return works.taxis;
      case 8:
        return works.walks;
      case 9:
        return works.busCosts;
      case 10:
        return works.taxiCosts;
      case 11:
        return works.setting(RIDE_MINUTES);
      case 12:
        return works.setting(SEATS);
      case 13:
        return works.setting(MOST_APART);
      case 14:
        return works.setting(MOST_BEHIND);
      case 15:
        return works.bookingsSoFar;
      case 16:
        return history.size;
      case 17:
        return text.length;
      default:
        return BAD_VALUE;
    }
  }

  // ---- what the calls share

  private static boolean isLine(int line) {
    return line >= 0 && line < LINES;
  }

  private static boolean isStop(int stop) {
    return stop >= 1 && stop <= STOPS;
  }

  private static boolean isSettingValue(int which, int value) {
    if (which < 0 || which >= LEAST_SETTINGS.length || which >= MOST_SETTINGS.length) {
      return false;
    }
    return value >= LEAST_SETTINGS[which] && value <= MOST_SETTINGS[which];
  }

  /** merge and spares ask the same in the same order; 0 is no error. */
  private int mergingError(int line, int end, int other) {
    if (!isLine(line) || !works.hasEnd(end) || !works.hasEnd(other)) {
      return UNKNOWN;
    }
    if (end == other) {
      return BAD_VALUE;
    }
    return works.canMerge(line, end, other) ? 0 : NOT_POSSIBLE;
  }

  private boolean hasAllEnds() {
    for (int i = 0; i < text.wishCount && i < text.wishes.length; i++) {
      if (!works.hasEnd(text.wishes[i].end)) {
        return false;
      }
    }
    return true;
  }

  private void enterAll() {
    for (int i = 0; i < text.wishCount && i < text.wishes.length; i++) {
      Wish wish = text.wishes[i];
      works.enter(wish.end, wish.line, wish.stop);
    }
  }

  /** The booking of one worker, or a free row for one. */
  private static final class Booking {
    private static final int FREE = -1;

    int number = FREE;
    int end = 0;
    int line = 0;
    int stop = 0;
    boolean promised = false;
    int rides = 0;
    int taxis = 0;
    int walks = 0;

    boolean isLive() {
      return number != FREE;
    }

    boolean isWaiting() {
      return isLive() && !promised;
    }

    boolean isRider() {
      return isLive() && promised;
    }

    /** The other shift end may be NONE, which no booking has. */
    boolean isOfBus(int busLine, int busEnd, int otherEnd) {
      return isLive() && line == busLine && (end == busEnd || end == otherEnd);
    }

    boolean getsSeatAheadOf(Booking that) {
      return stop != that.stop ? stop > that.stop : number < that.number;
    }

    void clear() {
      number = FREE;
      end = 0;
      line = 0;
      stop = 0;
      promised = false;
      rides = 0;
      taxis = 0;
      walks = 0;
    }

    void copyFrom(Booking that) {
      number = that.number;
      end = that.end;
      line = that.line;
      stop = that.stop;
      promised = that.promised;
      rides = that.rides;
      taxis = that.taxis;
      walks = that.walks;
    }
  }

  /**
   * A state: everything but the text, the history and the snapshot. A bus is told by its line and the shift ends that
   * it serves: one and NONE, or both of a pair. So a bus that is merged just in thought can be asked about too.
   */
  private static final class Works {
    int endCount = 0;
    private final int[] minutes = new int[MOST_ENDS];
    private final int[] partners = new int[LINES * MOST_ENDS];
    private final int[] settings = new int[FIRST_SETTINGS.length];
    private final Booking[] bookings = new Booking[MOST_WORKERS];
    int bookingsSoFar = 0;
    int days = 0;
    int rides = 0;
    int taxis = 0;
    int walks = 0;
    int busCosts = 0;
    int taxiCosts = 0;

    Works() {
      for (int i = 0; i < partners.length; i++) {
        partners[i] = NONE;
      }
      for (int i = 0; i < settings.length && i < FIRST_SETTINGS.length; i++) {
        settings[i] = FIRST_SETTINGS[i];
      }
      for (int i = 0; i < bookings.length; i++) {
        bookings[i] = new Booking();
      }
    }

    void copyFrom(Works that) {
      endCount = that.endCount;
      copyRow(that.minutes, minutes);
      copyRow(that.partners, partners);
      copyRow(that.settings, settings);
      for (int i = 0; i < bookings.length && i < that.bookings.length; i++) {
        bookings[i].copyFrom(that.bookings[i]);
      }
      bookingsSoFar = that.bookingsSoFar;
      days = that.days;
      rides = that.rides;
      taxis = that.taxis;
      walks = that.walks;
      busCosts = that.busCosts;
      taxiCosts = that.taxiCosts;
    }

    private static void copyRow(int[] from, int[] to) {
      for (int i = 0; i < from.length && i < to.length; i++) {
        to[i] = from[i];
      }
    }

    int setting(int which) {
      return which >= 0 && which < settings.length ? settings[which] : 0;
    }

    void changeSetting(int which, int value) {
      if (which >= 0 && which < settings.length) {
        settings[which] = value;
      }
    }

    // -- shift ends

    boolean hasEnd(int end) {
      return end >= 0 && end < endCount;
    }

    int openEnd(int minute) {
      int end = endCount;
      if (end < 0 || end >= minutes.length) {
        return FULL;
      }
      minutes[end] = minute;
      endCount = end + 1;
      return end;
    }

    private int minuteOf(int end) {
      return end >= 0 && end < minutes.length ? minutes[end] : 0;
    }

    private boolean isEarlier(int end, int than) {
      int difference = minuteOf(end) - minuteOf(than);
      return difference != 0 ? difference < 0 : end < than;
    }

    int endOfRank(int rank) {
      for (int end = 0; end < endCount; end++) {
        if (rankOf(end) == rank) {
          return end;
        }
      }
      return NONE;
    }

    private int rankOf(int end) {
      int rank = 0;
      for (int other = 0; other < endCount; other++) {
        if (isEarlier(other, end)) {
          rank++;
        }
      }
      return rank;
    }

    // -- bookings

    /** Null stands for a worker without a booking. */
    Booking bookingOf(int worker) {
      for (Booking booking : bookings) {
        if (booking.isLive() && booking.number == worker) {
          return booking;
        }
      }
      return null;
    }

    int enter(int end, int line, int stop) {
      boolean promised = reason(line, end, stop, null) == CAN_BE_PROMISED;
      for (Booking booking : bookings) {
        if (!booking.isLive()) {
          booking.number = bookingsSoFar;
          booking.end = end;
          booking.line = line;
          booking.stop = stop;
          booking.promised = promised;
          bookingsSoFar++;
          return booking.number;
        }
      }
      return FULL;
    }

    int workerCount() {
      int count = 0;
      for (Booking booking : bookings) {
        if (booking.isLive()) {
          count++;
        }
      }
      return count;
    }

    int waitingCount() {
      int count = 0;
      for (Booking booking : bookings) {
        if (booking.isWaiting()) {
          count++;
        }
      }
      return count;
    }

    // -- promises

    /** Who is asked about is left out (null: nobody), for the own seat is no reason against the own booking. */
    int reason(int line, int end, int stop, Booking leftOut) {
      if (!hasEnd(end)) {
        return NO_SUCH_END;
      }
      int other = partnerOf(line, end);
      if (takenSeats(line, end, other, FULLEST_STRETCH, leftOut) >= setting(SEATS)) {
        return NO_SEAT_LEFT;
      }
      return isInTime(end, stop, startOf(end, other)) ? CAN_BE_PROMISED : TOO_LATE;
    }

    /** Each promise takes a seat from those who come later, so the order tells who gets it. */
    void lookAtWaiting() {
      Booking last = null;
      for (int i = 0; i < bookings.length; i++) {
        Booking next = nextWaiting(last);
        if (next == null) {
          return;
        }
        if (reason(next.line, next.end, next.stop, null) == CAN_BE_PROMISED) {
          next.promised = true;
        }
        last = next;
      }
    }

    /** The last one is null at first; null is answered when nobody is left to look at. */
    private Booking nextWaiting(Booking last) {
      Booking next = null;
      for (Booking booking : bookings) {
        if (booking.isWaiting() && (last == null || isLookedAtAheadOf(last, booking))
            && (next == null || isLookedAtAheadOf(booking, next))) {
          next = booking;
        }
      }
      return next;
    }

    private boolean isLookedAtAheadOf(Booking one, Booking other) {
      if (one.end != other.end) {
        return isEarlier(one.end, other.end);
      }
      if (one.line != other.line) {
        return one.line < other.line;
      }
      return one.stop != other.stop ? one.stop < other.stop : one.number < other.number;
    }

    // -- buses

    private static int busIndex(int line, int end) {
      return isLine(line) && end >= 0 && end < MOST_ENDS ? line * MOST_ENDS + end : -1;
    }

    int partnerOf(int line, int end) {
      int index = busIndex(line, end);
      return index >= 0 && index < partners.length ? partners[index] : NONE;
    }

    void tie(int line, int end, int partner) {
      int index = busIndex(line, end);
      if (index >= 0 && index < partners.length) {
        partners[index] = partner;
      }
    }

    int pairCount() {
      int tied = 0;
      for (int partner : partners) {
        if (partner != NONE) {
          tied++;
        }
      }
      return tied / 2;
    }

    int startOf(int end, int other) {
      return hasEnd(other) ? Math.max(minuteOf(end), minuteOf(other)) : minuteOf(end);
    }

    int startOfBusOf(Booking booking) {
      return startOf(booking.end, partnerOf(booking.line, booking.end));
    }

    /** The start is that of the bus, which may be later than the own shift end. */
    int minutesBehind(int end, int stop, int start) {
      return start - minuteOf(end) + stop * setting(RIDE_MINUTES);
    }

    private boolean isInTime(int end, int stop, int start) {
      return minutesBehind(end, stop, start) <= setting(MOST_BEHIND);
    }

    /** Who gets off before the stop has left a seat on the stretch that comes to it. */
    int takenSeats(int line, int end, int other, int stop, Booking leftOut) {
      int seats = 0;
      for (Booking booking : bookings) {
        if (booking.isRider() && booking.isOfBus(line, end, other) && booking.stop >= stop && booking != leftOut) {
          seats++;
        }
      }
      return seats;
    }

    int waitingFor(int line, int end, int other) {
      int count = 0;
      for (Booking booking : bookings) {
        if (booking.isWaiting() && booking.isOfBus(line, end, other)) {
          count++;
        }
      }
      return count;
    }

    int farthestPromised(int line, int end, int other) {
      int farthest = 0;
      for (Booking booking : bookings) {
        if (booking.isRider() && booking.isOfBus(line, end, other)) {
          farthest = Math.max(farthest, booking.stop);
        }
      }
      return farthest;
    }

    boolean canMerge(int line, int end, int other) {
      if (partnerOf(line, end) != NONE || partnerOf(line, other) != NONE) {
        return false;
      }
      if (Math.abs(minuteOf(end) - minuteOf(other)) > setting(MOST_APART)) {
        return false;
      }
      return takenSeats(line, end, other, FULLEST_STRETCH, null) <= setting(SEATS)
          && isInTimeForAll(line, end, other);
    }

    private boolean isInTimeForAll(int line, int end, int other) {
      int start = startOf(end, other);
      for (Booking booking : bookings) {
        if (booking.isRider() && booking.isOfBus(line, end, other) && !isInTime(booking.end, booking.stop, start)) {
          return false;
        }
      }
      return true;
    }

    // -- a day

    /** Who goes by taxi takes no seat, so those ahead who are late leave theirs to the others. */
    private boolean canRide(Booking rider, int end, int other) {
      int start = startOf(end, other);
      if (!isInTime(rider.end, rider.stop, start)) {
        return false;
      }
      int ahead = 0;
      for (Booking booking : bookings) {
        if (booking.isRider() && booking.isOfBus(rider.line, end, other) && isInTime(booking.end, booking.stop, start)
            && booking.getsSeatAheadOf(rider)) {
          ahead++;
        }
      }
      return ahead < setting(SEATS);
    }

    int costToday(int line, int end, int other) {
      int farthest = 0;
      for (Booking booking : bookings) {
        if (booking.isRider() && booking.isOfBus(line, end, other) && canRide(booking, end, other)) {
          farthest = Math.max(farthest, booking.stop);
        }
      }
      return farthest == 0 ? 0 : BUS_COST + BUS_COST_PER_STRETCH * farthest;
    }

    void runBuses() {
      for (int line = 0; line < LINES; line++) {
        for (int end = 0; end < endCount; end++) {
          int other = partnerOf(line, end);
          boolean isMergedAway = other != NONE && isEarlier(end, other);
          if (!isMergedAway) {
            busCosts += costToday(line, end, other);
          }
        }
      }
    }

    void bringHome() {
      for (Booking booking : bookings) {
        if (booking.isRider()) {
          bringRiderHome(booking);
        } else if (booking.isWaiting()) {
          booking.walks++;
          walks++;
        }
      }
    }

    private void bringRiderHome(Booking rider) {
      if (canRide(rider, rider.end, partnerOf(rider.line, rider.end))) {
        rider.rides++;
        rides++;
      } else {
        rider.taxis++;
        taxis++;
        taxiCosts += TAXI_COST + TAXI_COST_PER_STRETCH * rider.stop;
      }
    }
  }

  /** One seat that the text asks for. */
  private static final class Wish {
    int end = 0;
    int line = 0;
    int stop = 0;
  }

  /** The text that is typed, and the seats that it asks for as soon as it was read. */
  private static final class BookingText {
    private static final int END_DUE = 0;
    private static final int LINE_DUE = 1;
    private static final int STOP_DUE = 2;
    private static final int STOP_OR_COMMA_DUE = 3;

    private final char[] characters = new char[MOST_CHARACTERS];
    int length = 0;
    final Wish[] wishes = new Wish[MOST_CHARACTERS];
    int wishCount = 0;

    BookingText() {
      for (int i = 0; i < wishes.length; i++) {
        wishes[i] = new Wish();
      }
    }

    void append(char character) {
      if (length >= 0 && length < characters.length) {
        characters[length] = character;
        length++;
      }
    }

    /** The wishes count only if there is no fault: they are filled in on the way. */
    int read() {
      wishCount = 0;
      int due = END_DUE;
      int end = 0;
      int line = 0;
      for (int i = 0; i < length && i < characters.length; i++) {
        char character = characters[i];
        if (!isAllowed(character, due)) {
          return i;
        }
        if (due == END_DUE) {
          end = character - '0';
          due = LINE_DUE;
        } else if (due == LINE_DUE) {
          line = character - 'a';
          due = STOP_DUE;
        } else if (character == ',') {
          due = END_DUE;
        } else {
          wish(end, line, character - '0');
          due = STOP_OR_COMMA_DUE;
        }
      }
      return due == STOP_OR_COMMA_DUE ? NO_FAULT : length;
    }

    private static boolean isAllowed(char character, int due) {
      boolean isStopDigit = character >= '1' && character <= '9';
      switch (due) {
        case END_DUE:
          return isStopDigit || character == '0';
        case LINE_DUE:
          return character == 'a' || character == 'b';
        case STOP_DUE:
          return isStopDigit;
        default:
          return isStopDigit || character == ',';
      }
    }

    private void wish(int end, int line, int stop) {
      if (wishCount >= 0 && wishCount < wishes.length) {
        wishes[wishCount].end = end;
        wishes[wishCount].line = line;
        wishes[wishCount].stop = stop;
        wishCount++;
      }
    }
  }

  /** The latest states; the rows are made once and used again. */
  private static final class History {
    private final Works[] states = new Works[MOST_STATES];
    int size = 0;

    History() {
      for (int i = 0; i < states.length; i++) {
        states[i] = new Works();
      }
    }

    void remember(Works works) {
      if (size >= states.length) {
        dropOldest();
      }
      if (size >= 0 && size < states.length) {
        states[size].copyFrom(works);
        size++;
      }
    }

    private void dropOldest() {
      for (int i = 1; i < states.length; i++) {
        Works oldest = states[i - 1];
        states[i - 1] = states[i];
        states[i] = oldest;
      }
      size = states.length - 1;
    }

    void takeLatestInto(Works works) {
      int latest = size - 1;
      if (latest >= 0 && latest < states.length) {
        works.copyFrom(states[latest]);
        size = latest;
      }
    }
  }
}
