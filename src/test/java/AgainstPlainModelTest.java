import java.util.Random;

/** Long runs of calls, good and bad ones, on the program and on the plain model; the seeds are fixed. */
public final class AgainstPlainModelTest {
  private static final int RUNS = 6000;
  private static final int MOST_CALLS_OF_AN_ACT = 50;
  private static final int[] ODD_NUMBERS = {Integer.MIN_VALUE, Integer.MAX_VALUE, -1, -2, -5, 10, 30, 31, 60, 1440, -100};
  private static final int[] MINUTES = {0, 5, 1439, 600, 600, 615, 630, 631, 645, 660, 720, 721};
  private static final String[] GROUPS = {"0a1", "1b99", "2a573", "0b12345", "1a9", "9b1", "0a", "b3", "1a0", "", "0a111111111"};

  private final Random random;
  private final CountedBuses x = new CountedBuses();
  private final PlainModel m = new PlainModel();

  private AgainstPlainModelTest(long seed) {
    random = new Random(seed);
  }

  private int pick(int least, int most) {
    if (random.nextInt(40) == 0) {
      return random.nextBoolean() ? ODD_NUMBERS[random.nextInt(ODD_NUMBERS.length)] : random.nextInt();
    }
    return least + random.nextInt(most - least + 1);
  }

  private int end() {
    return pick(0, Math.max(0, m.count(0) - 1));
  }

  private int worker() {
    return pick(Math.max(0, m.count(15) - 40), Math.max(0, m.count(15)));
  }

  private int settingValue(int which) {
    switch (which) {
      case 0: return random.nextBoolean() ? 5 : pick(0, 21);
      case 1: return random.nextInt(3) > 0 ? pick(1, 4) : pick(0, 31);
      case 2: return random.nextInt(3) > 0 ? pick(30, 120) : pick(-1, 121);
      default: return random.nextInt(3) > 0 ? pick(10, 100) : pick(9, 301);
    }
  }

  private void same(String call, int got, int want) {
    if (got != want) {
      Due.due(call, got, want);
    }
  }

  private void typeSomething() {
    if (random.nextInt(3) > 0) {
      same("clearText()", x.clearText(), m.clearText());
    }
    StringBuilder text = new StringBuilder();
    int groups = 1 + random.nextInt(3);
    for (int i = 0; i < groups; i++) {
      text.append(i > 0 ? "," : "").append(GROUPS[random.nextInt(random.nextInt(4) == 0 ? GROUPS.length : 4)]);
    }
    if (random.nextInt(6) == 0) {
      text.append((char) random.nextInt(300));
    }
    for (int i = 0; i < text.length(); i++) {
      same("type", x.type(text.charAt(i)), m.type(text.charAt(i)));
    }
    same("bookAll() of " + text, x.bookAll(), m.bookAll());
  }

  private void act() {
    int e = end();
    int l = pick(0, 1);
    int st = pick(1, 9);
    int o = end();
    int w = worker();
    switch (random.nextInt(20)) {
      case 0: case 1: case 2: case 3: case 4: case 5:
        same("book", x.book(e, l, st), m.book(e, l, st));
        break;
      case 6: case 7:
        same("takeBack", x.takeBack(w), m.takeBack(w));
        break;
      case 8: case 9:
        same("stay", x.stay(w, e), m.stay(w, e));
        break;
      case 10: case 11: case 12:
        same("merge", x.merge(l, e, o), m.merge(l, e, o));
        break;
      case 13:
        same("part", x.part(l, e), m.part(l, e));
        break;
      case 14: case 15:
        int which = pick(0, 3);
        int value = settingValue(which);
        same("set", x.set(which, value), m.set(which, value));
        break;
      case 16:
        same("passDay", x.passDay(), m.passDay());
        break;
      case 17:
        if (random.nextInt(3) == 0) {
          typeSomething();
        }
        break;
      case 18:
        rareAct();
        break;
      default:
        int minute = random.nextInt(3) > 0 ? MINUTES[random.nextInt(MINUTES.length)] : pick(0, 1439);
        same("addEnd", x.addEnd(minute), m.addEnd(minute));
    }
  }

  private void rareAct() {
    switch (random.nextInt(5)) {
      case 0: case 1:
        same("undo", x.undo(), m.undo());
        break;
      case 2:
        same("keep", x.keep(), m.keep());
        break;
      case 3:
        same("restore", x.restore(), m.restore());
        break;
      default:
        char c = (char) random.nextInt(65536);
        same("type", x.type(c), m.type(c));
    }
  }

  private void ask() {
    int e = end();
    int l = pick(0, 1);
    int st = pick(1, 9);
    int o = end();
    int w = worker();
    int what = pick(0, 18);
    switch (random.nextInt(7)) {
      case 0:
        same("worker", x.worker(w, what % 10), m.worker(w, what % 10));
        break;
      case 1:
        same("bus", x.bus(l, e, what % 7), m.bus(l, e, what % 7));
        break;
      case 2:
        same("taken", x.taken(l, e, st), m.taken(l, e, st));
        break;
      case 3:
        same("why", x.why(l, e, st), m.why(l, e, st));
        break;
      case 4:
        same("spares", x.spares(l, e, o), m.spares(l, e, o));
        break;
      case 5:
        same("byMinute", x.byMinute(o), m.byMinute(o));
        break;
      default:
        same("count", x.count(what), m.count(what));
    }
  }

  private int callsLeft() {
    return CountedBuses.MOST_CALLS - x.calls();
  }

  /** All that can be asked of totals, buses and workers, as far as the calls last; it changes nothing. */
  private void askAll() {
    for (int what = 0; what <= 17 && callsLeft() > 0; what++) {
      same("count(" + what + ")", x.count(what), m.count(what));
    }
    for (int e = 0; e < m.count(0); e++) {
      for (int l = 0; l < 2; l++) {
        for (int what = 0; what <= 5 && callsLeft() > 0; what++) {
          same("bus(" + l + ", " + e + ", " + what + ")", x.bus(l, e, what), m.bus(l, e, what));
        }
      }
    }
    for (int w = m.count(15) - 1; w >= 0; w--) {
      for (int what = 0; what <= 8 && callsLeft() > 0; what++) {
        same("worker(" + w + ", " + what + ")", x.worker(w, what), m.worker(w, what));
      }
    }
    for (int e = 0; e < m.count(0); e++) {
      for (int o = 0; o < m.count(0) && callsLeft() > 0; o++) {
        same("spares(0, " + e + ", " + o + ")", x.spares(0, e, o), m.spares(0, e, o));
      }
    }
  }

  /** Some runs ask much and do little, some the other way round; all end at the 512th call. */
  private void run() {
    int ends = random.nextInt(5);
    for (int i = 0; i < ends; i++) {
      int minute = MINUTES[random.nextInt(MINUTES.length)];
      same("addEnd", x.addEnd(minute), m.addEnd(minute));
    }
    int asksOfTen = random.nextInt(10);
    int callsOfActs = 50 + random.nextInt(CountedBuses.MOST_CALLS - 50 - MOST_CALLS_OF_AN_ACT);
    while (x.calls() < callsOfActs) {
      if (random.nextInt(10) < asksOfTen) {
        ask();
      } else {
        act();
      }
    }
    askAll();
    while (callsLeft() > 0) {
      ask();
    }
  }

  public static void main(String[] args) {
    for (int seed = 0; seed < RUNS; seed++) {
      new AgainstPlainModelTest(seed).run();
    }
    Due.holds("the runs were made", true);
    Due.finish();
  }
}
