import java.util.ArrayList;
import java.util.Comparator;
import java.util.List;

/** The document once more, word by word and without short cuts: stretches are walked, orders are sorted. */
final class PlainModel {
  static final class Rider {
    int number;
    int end;
    int line;
    int stop;
    boolean promised;
    int byBus;
    int byTaxi;
    int walked;

    Rider copy() {
      Rider c = new Rider();
      c.number = number;
      c.end = end;
      c.line = line;
      c.stop = stop;
      c.promised = promised;
      c.byBus = byBus;
      c.byTaxi = byTaxi;
      c.walked = walked;
      return c;
    }
  }

  /** One pair of shift ends whose buses are one. */
  record Pair(int line, int one, int two) {
    boolean has(int l, int end) {
      return line == l && (one == end || two == end);
    }

    int otherOf(int end) {
      return one == end ? two : one;
    }
  }

  static final class State {
    List<Integer> minutes = new ArrayList<>();
    List<Rider> riders = new ArrayList<>();
    List<Pair> pairs = new ArrayList<>();
    int[] settings = {5, 6, 30, 90};
    int[] totals = new int[7]; // days, rides, taxis, walks, bus costs, taxi costs, bookings

    State copy() {
      State c = new State();
      c.minutes.addAll(minutes);
      for (Rider r : riders) {
        c.riders.add(r.copy());
      }
      c.pairs.addAll(pairs);
      c.settings = settings.clone();
      c.totals = totals.clone();
      return c;
    }
  }

  private State s = new State();
  private State snapshot = null;
  private final List<State> history = new ArrayList<>();
  private String text = "";

  private void act() {
    history.add(s.copy());
    if (history.size() > 4) {
      history.remove(0);
    }
  }

  private boolean end(int e) {
    return e >= 0 && e < s.minutes.size();
  }

  private static boolean line(int l) {
    return l == 0 || l == 1;
  }

  private static boolean stop(int st) {
    return st >= 1 && st <= 9;
  }

  private Pair pairOf(int l, int e) {
    for (Pair p : s.pairs) {
      if (p.has(l, e)) {
        return p;
      }
    }
    return null;
  }

  private List<Integer> endsOfBus(int l, int e) {
    Pair p = pairOf(l, e);
    return p == null ? List.of(e) : List.of(p.one(), p.two());
  }

  private int start(List<Integer> ends) {
    int latest = -1;
    for (int e : ends) {
      latest = Math.max(latest, s.minutes.get(e));
    }
    return latest;
  }

  private List<Rider> promisedOn(int l, List<Integer> ends) {
    List<Rider> on = new ArrayList<>();
    for (Rider r : s.riders) {
      if (r.promised && r.line == l && ends.contains(r.end)) {
        on.add(r);
      }
    }
    return on;
  }

  private static int onStretch(List<Rider> riders, int stretch) {
    int n = 0;
    for (Rider r : riders) {
      if (r.stop >= stretch) {
        n++;
      }
    }
    return n;
  }

  private boolean seatLeft(List<Rider> riders, int st) {
    for (int stretch = 1; stretch <= st; stretch++) {
      if (onStretch(riders, stretch) >= s.settings[1]) {
        return false;
      }
    }
    return true;
  }

  private boolean inTime(int e, int st, int start) {
    return start + st * s.settings[0] <= s.minutes.get(e) + s.settings[3];
  }

  private int reason(int l, int e, int st, Rider but) {
    if (!end(e)) {
      return 1;
    }
    List<Integer> ends = endsOfBus(l, e);
    List<Rider> riders = promisedOn(l, ends);
    riders.remove(but);
    if (!seatLeft(riders, st)) {
      return 2;
    }
    return inTime(e, st, start(ends)) ? 0 : 3;
  }

  private void look() {
    List<Rider> waiting = new ArrayList<>();
    for (Rider r : s.riders) {
      if (!r.promised) {
        waiting.add(r);
      }
    }
    waiting.sort(Comparator.comparingInt((Rider r) -> s.minutes.get(r.end)).thenComparingInt(r -> r.end)
        .thenComparingInt(r -> r.line).thenComparingInt(r -> r.stop).thenComparingInt(r -> r.number));
    for (Rider r : waiting) {
      r.promised = reason(r.line, r.end, r.stop, null) == 0;
    }
  }

  private Rider riderOf(int number) {
    for (Rider r : s.riders) {
      if (r.number == number) {
        return r;
      }
    }
    return null;
  }

  int addEnd(int minute) {
    if (minute < 0 || minute > 1439) {
      return -2;
    }
    if (s.minutes.size() == 10) {
      return -3;
    }
    act();
    s.minutes.add(minute);
    return s.minutes.size() - 1;
  }

  private int enter(int e, int l, int st) {
    Rider r = new Rider();
    r.number = s.totals[6]++;
    r.end = e;
    r.line = l;
    r.stop = st;
    r.promised = reason(l, e, st, null) == 0;
    s.riders.add(r);
    return r.number;
  }

  int book(int e, int l, int st) {
    if (!end(e) || !line(l) || !stop(st)) {
      return -1;
    }
    if (s.riders.size() == 30) {
      return -3;
    }
    act();
    return enter(e, l, st);
  }

  /** The text is read from the left by what may begin a text of bookings. */
  private static boolean begins(String part) {
    return part.matches("([0-9][ab][1-9]+,)*([0-9]([ab][1-9]*)?)?");
  }

  private static boolean isWhole(String part) {
    return part.matches("[0-9][ab][1-9]+(,[0-9][ab][1-9]+)*");
  }

  int bookAll() {
    for (int i = 0; i < text.length(); i++) {
      if (!begins(text.substring(0, i + 1))) {
        return -100 - i;
      }
    }
    if (!isWhole(text)) {
      return -100 - text.length();
    }
    int seats = 0;
    for (String part : text.split(",")) {
      if (!end(part.charAt(0) - '0')) {
        return -1;
      }
      seats += part.length() - 2;
    }
    if (s.riders.size() + seats > 30) {
      return -3;
    }
    act();
    for (String part : text.split(",")) {
      for (int i = 2; i < part.length(); i++) {
        enter(part.charAt(0) - '0', part.charAt(1) - 'a', part.charAt(i) - '0');
      }
    }
    return seats;
  }

  private int waiting() {
    int n = 0;
    for (Rider r : s.riders) {
      if (!r.promised) {
        n++;
      }
    }
    return n;
  }

  int takeBack(int w) {
    if (riderOf(w) == null) {
      return -1;
    }
    act();
    s.riders.remove(riderOf(w));
    look();
    return waiting();
  }

  int stay(int w, int e) {
    Rider r = riderOf(w);
    if (r == null || !end(e)) {
      return -1;
    }
    if (r.end == e) {
      return -5;
    }
    act();
    r.end = e;
    r.promised = false;
    look();
    return r.promised ? 1 : 0;
  }

  private int mergeError(int l, int e, int o) {
    if (!line(l) || !end(e) || !end(o)) {
      return -1;
    }
    if (e == o) {
      return -2;
    }
    if (pairOf(l, e) != null || pairOf(l, o) != null) {
      return -4;
    }
    if (Math.abs(s.minutes.get(e) - s.minutes.get(o)) > s.settings[2]) {
      return -4;
    }
    List<Integer> ends = List.of(e, o);
    List<Rider> riders = promisedOn(l, ends);
    for (int stretch = 1; stretch <= 9; stretch++) {
      if (onStretch(riders, stretch) > s.settings[1]) {
        return -4;
      }
    }
    for (Rider r : riders) {
      if (!inTime(r.end, r.stop, start(ends))) {
        return -4;
      }
    }
    return 0;
  }

  int merge(int l, int e, int o) {
    int error = mergeError(l, e, o);
    if (error != 0) {
      return error;
    }
    act();
    s.pairs.add(new Pair(l, e, o));
    look();
    return start(List.of(e, o));
  }

  int part(int l, int e) {
    if (!line(l) || !end(e)) {
      return -1;
    }
    Pair p = pairOf(l, e);
    if (p == null) {
      return -5;
    }
    act();
    s.pairs.remove(p);
    look();
    return p.otherOf(e);
  }

  int set(int which, int value) {
    int[][] ranges = {{1, 20}, {1, 30}, {0, 120}, {10, 300}};
    if (which < 0 || which > 3 || value < ranges[which][0] || value > ranges[which][1]) {
      return -2;
    }
    int previous = s.settings[which];
    if (previous == value) {
      return -5;
    }
    act();
    s.settings[which] = value;
    if (which == 0 || which == 1 || which == 3) {
      look();
    }
    return previous;
  }

  /** Answers who rides home by this bus today. */
  private List<Rider> ridingToday(int l, List<Integer> ends) {
    List<Rider> riders = promisedOn(l, ends);
    riders.sort(Comparator.comparingInt((Rider r) -> -r.stop).thenComparingInt(r -> r.number));
    List<Rider> seated = new ArrayList<>();
    for (Rider r : riders) {
      if (seatLeft(seated, r.stop) && inTime(r.end, r.stop, start(ends))) {
        seated.add(r);
      }
    }
    return seated;
  }

  private int cost(int l, List<Integer> ends) {
    List<Rider> seated = ridingToday(l, ends);
    if (seated.isEmpty()) {
      return 0;
    }
    int farthest = 0;
    for (Rider r : seated) {
      farthest = Math.max(farthest, r.stop);
    }
    return 20 + 2 * farthest;
  }

  int passDay() {
    act();
    int taxis = 0;
    for (int rank = 0; rank < s.minutes.size(); rank++) {
      int e = byMinute(rank);
      for (int l = 0; l < 2; l++) {
        Pair p = pairOf(l, e);
        if (p != null && isLater(p.otherOf(e), e)) {
          continue;
        }
        taxis += drive(l, endsOfBus(l, e));
      }
    }
    for (Rider r : s.riders) {
      if (!r.promised) {
        r.walked++;
        s.totals[3]++;
      }
    }
    s.totals[0]++;
    return taxis;
  }

  private boolean isLater(int e, int than) {
    int m = s.minutes.get(e);
    int n = s.minutes.get(than);
    return m > n || m == n && e > than;
  }

  private int drive(int l, List<Integer> ends) {
    s.totals[4] += cost(l, ends);
    List<Rider> seated = ridingToday(l, ends);
    int taxis = 0;
    for (Rider r : promisedOn(l, ends)) {
      if (seated.contains(r)) {
        r.byBus++;
        s.totals[1]++;
      } else {
        r.byTaxi++;
        taxis++;
        s.totals[2]++;
        s.totals[5] += 8 + 3 * r.stop;
      }
    }
    return taxis;
  }

  int type(char c) {
    if (text.length() == 60) {
      return -3;
    }
    text += c;
    return text.length();
  }

  int clearText() {
    int length = text.length();
    text = "";
    return length;
  }

  int undo() {
    if (history.isEmpty()) {
      return -5;
    }
    s = history.remove(history.size() - 1);
    return history.size();
  }

  int keep() {
    snapshot = s.copy();
    return s.riders.size();
  }

  int restore() {
    if (snapshot == null) {
      return -5;
    }
    act();
    s = snapshot.copy();
    return s.riders.size();
  }

  int worker(int w, int what) {
    Rider r = riderOf(w);
    if (r == null) {
      return -1;
    }
    switch (what) {
      case 0: return r.end;
      case 1: return r.line;
      case 2: return r.stop;
      case 3: return r.promised ? 1 : 0;
      case 4: return start(endsOfBus(r.line, r.end)) + r.stop * s.settings[0] - s.minutes.get(r.end);
      case 5: return reason(r.line, r.end, r.stop, r);
      case 6: return r.byBus;
      case 7: return r.byTaxi;
      case 8: return r.walked;
      default: return -2;
    }
  }

  int bus(int l, int e, int what) {
    if (!line(l) || !end(e)) {
      return -1;
    }
    List<Integer> ends = endsOfBus(l, e);
    List<Rider> riders = promisedOn(l, ends);
    int n = 0;
    switch (what) {
      case 0: return start(ends);
      case 1: return pairOf(l, e) == null ? -5 : pairOf(l, e).otherOf(e);
      case 2: return riders.size();
      case 3:
        for (Rider r : s.riders) {
          n += !r.promised && r.line == l && ends.contains(r.end) ? 1 : 0;
        }
        return n;
      case 4:
        for (Rider r : riders) {
          n = Math.max(n, r.stop);
        }
        return n;
      case 5: return cost(l, ends);
      default: return -2;
    }
  }

  int taken(int l, int e, int st) {
    if (!line(l) || !end(e) || !stop(st)) {
      return -1;
    }
    return onStretch(promisedOn(l, endsOfBus(l, e)), st);
  }

  int why(int l, int e, int st) {
    return line(l) && stop(st) ? reason(l, e, st, null) : -1;
  }

  int spares(int l, int e, int o) {
    int error = mergeError(l, e, o);
    return error != 0 ? error : cost(l, List.of(e)) + cost(l, List.of(o)) - cost(l, List.of(e, o));
  }

  int byMinute(int rank) {
    if (rank < 0) {
      return -2;
    }
    List<Integer> ends = new ArrayList<>();
    for (int e = 0; e < s.minutes.size(); e++) {
      ends.add(e);
    }
    ends.sort(Comparator.comparingInt((Integer e) -> s.minutes.get(e)).thenComparingInt(e -> e));
    return rank < ends.size() ? ends.get(rank) : -5;
  }

  int count(int what) {
    switch (what) {
      case 0: return s.minutes.size();
      case 1: return s.riders.size();
      case 2: return s.riders.size() - waiting();
      case 3: return waiting();
      case 4: return s.pairs.size();
      case 5: case 6: case 7: case 8: case 9: case 10: return s.totals[what - 5];
      case 11: case 12: case 13: case 14: return s.settings[what - 11];
      case 15: return s.totals[6];
      case 16: return history.size();
      case 17: return text.length();
      default: return -2;
    }
  }
}
