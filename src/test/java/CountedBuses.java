/** The buses that are tested, with a count of the calls: after the 512th one the document promises nothing. */
final class CountedBuses {
  static final int MOST_CALLS = 512;

  private final ShiftBuses buses = new ShiftBuses();
  private int calls = 0;

  int calls() {
    return calls;
  }

  private ShiftBuses used() {
    calls++;
    if (calls > MOST_CALLS) {
      throw new IllegalStateException("a test used an object for more than " + MOST_CALLS + " calls");
    }
    return buses;
  }

  int addEnd(int minute) {
    return used().addEnd(minute);
  }

  int book(int end, int line, int stop) {
    return used().book(end, line, stop);
  }

  int bookAll() {
    return used().bookAll();
  }

  int takeBack(int worker) {
    return used().takeBack(worker);
  }

  int stay(int worker, int end) {
    return used().stay(worker, end);
  }

  int merge(int line, int end, int other) {
    return used().merge(line, end, other);
  }

  int part(int line, int end) {
    return used().part(line, end);
  }

  int set(int which, int value) {
    return used().set(which, value);
  }

  int passDay() {
    return used().passDay();
  }

  int type(char character) {
    return used().type(character);
  }

  int clearText() {
    return used().clearText();
  }

  int undo() {
    return used().undo();
  }

  int keep() {
    return used().keep();
  }

  int restore() {
    return used().restore();
  }

  int worker(int worker, int what) {
    return used().worker(worker, what);
  }

  int bus(int line, int end, int what) {
    return used().bus(line, end, what);
  }

  int taken(int line, int end, int stop) {
    return used().taken(line, end, stop);
  }

  int why(int line, int end, int stop) {
    return used().why(line, end, stop);
  }

  int spares(int line, int end, int other) {
    return used().spares(line, end, other);
  }

  int byMinute(int rank) {
    return used().byMinute(rank);
  }

  int count(int what) {
    return used().count(what);
  }
}
