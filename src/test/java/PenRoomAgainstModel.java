import java.util.ArrayList;
import java.util.List;
import java.util.Random;

/**
 * Random runs, the same each time, on PenRoom and on a model that is written straight from the document:
 * it counts each try, looks at each sum, and keeps all it knows in lists.
 */
public final class PenRoomAgainstModel {
  private static final int SHOWN = 20;

  /** Beyond its 512th call nothing is promised of an object; a text has the most calls that come together. */
  private static final int PROMISED = 512;
  private static final int DEAREST = 60;

  private static final String[] KINDS = {"bill", "order", "pay", "trip"};
  private static final String[] ROLES = {"clerk", "head", "chief", "money", "law", "board", "guard", "owner"};

  static final class Fault extends RuntimeException {
    private static final long serialVersionUID = 1L;

    final int number;
    final int place;

    Fault(int number, int place) {
      super(null, null, false, false);
      this.number = number;
      this.place = place;
    }
  }

  interface Test {
    boolean holds(int joined, int place, boolean urgent);
  }

  static final class Slot {
    int role, step, hand = -1, name = -1, day = -1;
  }

  static final class Rule {
    int kind;
    Test when = (j, p, u) -> true;
    List<Slot> slots = new ArrayList<>();
  }

  static final class Book {
    List<Rule> rules = new ArrayList<>();
    int[] day = {-1, -1, -1, -1, -1, -1, -1, -1};
    int[] month = {-1, -1, -1, -1, -1, -1, -1, -1};
    int limits = 0;
  }

  static final class Token {
    final String text;
    final int place;

    Token(String text, int place) {
      this.text = text;
      this.place = place;
    }
  }

  /** Parts the whole text first; a piece that is no token stands as null. */
  static final class Parser {
    final List<Token> tokens = new ArrayList<>();
    int next = 0;
    int tests = 0;

    Parser(String text) {
      int i = 0;
      while (i < text.length()) {
        char c = text.charAt(i);
        int j = i + 1;
        String piece = null;
        if (c == ' ' || c == '\n') {
          i++;
          continue;
        }
        if (c >= 'a' && c <= 'z') {
          while (j < text.length() && text.substring(j, j + 1).matches("[a-z]")) j++;
          if (j - i <= 8) piece = text.substring(i, j);
        } else if (c >= '0' && c <= '9') {
          while (j < text.length() && text.substring(j, j + 1).matches("[0-9]")) j++;
          boolean letter = j < text.length() && text.substring(j, j + 1).matches("[a-z]");
          if (j - i <= 7 && !letter) piece = text.substring(i, j);
        } else if (":;()<>=".indexOf(c) >= 0) {
          piece = text.substring(i, j);
        }
        tokens.add(new Token(piece, i));
        i = j;
      }
      tokens.add(new Token("", text.length()));
    }

    Token now() { return tokens.get(next); }
    boolean is(String s) { return s.equals(now().text); }
    Fault wrong() { return new Fault(now().text == null ? 1 : 2, now().place); }
    void want(String s) { if (!is(s)) throw wrong(); next++; }
    boolean isNumber() { return now().text != null && now().text.matches("[0-9]+"); }

    int number() {
      if (!isNumber()) throw wrong();
      return Integer.parseInt(tokens.get(next++).text);
    }

    int oneOf(String[] words) {
      for (int i = 0; i < words.length; i++) {
        if (is(words[i])) {
          next++;
          return i;
        }
      }
      throw wrong();
    }

    Book text() {
      Book b = new Book();
      while (!is("")) {
        if (is("rule")) rule(b);
        else limit(b);
      }
      return b;
    }

    void limit(Book b) {
      if (b.limits == 8) throw wrong();
      want("limit");
      int place = now().place;
      int role = oneOf(ROLES);
      if (b.day[role] != -1 || b.month[role] != -1) throw new Fault(3, place);
      if (!is("day") && !is("month")) throw wrong();
      if (is("day")) {
        next++;
        b.day[role] = number();
      }
      if (is("month")) {
        next++;
        b.month[role] = number();
      }
      want(";");
      b.limits++;
    }

    void rule(Book b) {
      if (b.rules.size() == 20) throw wrong();
      want("rule");
      Rule r = new Rule();
      r.kind = oneOf(KINDS);
      if (is("when")) {
        next++;
        r.when = either(0);
      }
      want(":");
      int step = 0;
      do {
        if (step > 0) next++;
        int needs = 0;
        do {
          if (needs > 0) next++;
          need(r, step);
          needs++;
        } while (is("and") && needs < 3);
        step++;
      } while (is("then") && step < 4);
      want(";");
      b.rules.add(r);
    }

    void need(Rule r, int step) {
      int place = now().place;
      int n = number();
      if (n < 1 || n > 3 || r.slots.size() + n > 8) throw new Fault(4, place);
      int role = oneOf(ROLES);
      for (int i = 0; i < n; i++) {
        Slot s = new Slot();
        s.role = role;
        s.step = step;
        r.slots.add(s);
      }
    }

    Test either(int within) {
      if (within == 8) throw wrong();
      Test left = both(within);
      while (is("or")) {
        next++;
        Test a = left;
        Test c = both(within);
        left = (j, p, u) -> a.holds(j, p, u) || c.holds(j, p, u);
      }
      return left;
    }

    Test both(int within) {
      Test left = one(within);
      while (is("and")) {
        next++;
        Test a = left;
        Test c = one(within);
        left = (j, p, u) -> a.holds(j, p, u) && c.holds(j, p, u);
      }
      return left;
    }

    Test one(int within) {
      if (within == 8) throw wrong();
      if (is("not")) {
        next++;
        Test a = one(within + 1);
        return (j, p, u) -> !a.holds(j, p, u);
      }
      if (is("(")) {
        next++;
        Test a = either(within + 1);
        want(")");
        return a;
      }
      if (!is("sum") && !is("place") && !is("urgent")) throw wrong();
      if (tests == 60) throw wrong();
      tests++;
      return test();
    }

    Test test() {
      if (is("urgent")) {
        next++;
        return (j, p, u) -> u;
      }
      if (is("place")) {
        next++;
        want("=");
        int at = now().place;
        int n = number();
        if (n > 7) throw new Fault(4, at);
        return (j, p, u) -> p == n;
      }
      next++;
      boolean below = is("<");
      if (!below && !is(">")) throw wrong();
      next++;
      int n = number();
      return below ? (j, p, u) -> j < n : (j, p, u) -> j > n;
    }
  }

  static final class Paper {
    int kind, sum, maker, place, state, joined, begun;
    boolean urgent;
    List<Slot> slots = new ArrayList<>();

    int step() {
      for (Slot s : slots) if (s.hand < 0) return s.step;
      return slots.isEmpty() ? 0 : slots.get(slots.size() - 1).step + 1;
    }
  }

  static final class Model {
    List<Integer> roles = new ArrayList<>();
    List<int[]> aways = new ArrayList<>();
    List<int[]> deputies = new ArrayList<>();
    List<Boolean> ended = new ArrayList<>();
    StringBuilder tape = new StringBuilder();
    Book book = new Book();
    int day = 0, span = 0, fault = 0, faultPlace = -1;
    List<Paper> papers = new ArrayList<>();
    int[][] way = new int[8][];

    boolean isPerson(int p) { return p >= 0 && p < roles.size(); }
    boolean isSum(int s) { return s >= 0 && s <= 1000000; }
    boolean areDays(int from, int to) { return from >= 0 && from <= to && to <= 100000; }

    int person(int r) {
      if (r < 0 || r > 255 || roles.size() == 14) return -1;
      roles.add(r);
      return roles.size() - 1;
    }

    boolean roles(int p, int r) {
      if (!isPerson(p) || r < 0 || r > 255) return false;
      roles.set(p, r);
      return true;
    }

    boolean away(int p, int from, int to) {
      if (!isPerson(p) || !areDays(from, to) || aways.size() == 30) return false;
      aways.add(new int[] {p, from, to});
      return true;
    }

    int deputy(int p, int by, int from, int to, int upto) {
      if (!isPerson(p) || !isPerson(by) || p == by || !areDays(from, to) || !isSum(upto)) return -1;
      if (deputies.size() == 30) return -1;
      deputies.add(new int[] {p, by, from, to, upto});
      ended.add(false);
      return deputies.size() - 1;
    }

    boolean end(int d) {
      if (d < 0 || d >= deputies.size() || ended.get(d)) return false;
      ended.set(d, true);
      return true;
    }

    boolean isAway(int p, int on) {
      for (int[] a : aways) if (a[0] == p && a[1] <= on && on <= a[2]) return true;
      return false;
    }

    int actsFor(int p, int sum, int on, int through) {
      if (!isAway(p, on)) return 1 << p;
      int all = 0;
      for (int i = 0; i < deputies.size(); i++) {
        int[] d = deputies.get(i);
        boolean stands = !ended.get(i) && d[0] == p && d[2] <= on && on <= d[3] && sum <= d[4];
        if (stands && (through >> d[1] & 1) == 0) all |= actsFor(d[1], sum, on, through | 1 << d[1]);
      }
      return all;
    }

    int acts(int p, int sum, int on) {
      return !isPerson(p) || !isSum(sum) || on < 0 ? -1 : actsFor(p, sum, on, 1 << p);
    }

    int later(int days) {
      if (days < 0 || days > 1000 || day + days > 100000) return -1;
      return day += days;
    }

    int feed(int... five) {
      if (tape.length() + 20 > 1000) return -1;
      for (int v : five) for (int s = 24; s >= 0; s -= 8) tape.append((char) (v >>> s & 255));
      return tape.length();
    }

    int cut(int n) {
      if (n < 0 || n > tape.length()) return -1;
      tape.setLength(n);
      return n;
    }

    int rules() {
      String text = tape.toString();
      tape.setLength(0);
      fault = 0;
      faultPlace = -1;
      try {
        book = new Parser(text).text();
        return book.rules.size();
      } catch (Fault f) {
        fault = f.number;
        faultPlace = f.place;
        return -1;
      }
    }

    int fault(int what) { return what == 0 ? fault : what == 1 ? faultPlace : -1; }

    boolean span(int days) {
      if (days < 0 || days > 30) return false;
      span = days;
      return true;
    }

    boolean canBe(int kind, int sum, int maker, int place) {
      return kind >= 0 && kind <= 3 && isSum(sum) && isPerson(maker) && place >= 0 && place <= 7 && papers.size() < 40;
    }

    Paper fresh(int kind, int sum, int maker, int place, boolean urgent) {
      Paper p = new Paper();
      p.kind = kind;
      p.sum = sum;
      p.maker = maker;
      p.place = place;
      p.urgent = urgent;
      return p;
    }

    void begin(Paper p) {
      p.begun = day;
      p.joined = p.sum;
      for (Paper q : papers) {
        boolean like = q != p && q.maker == p.maker && q.kind == p.kind && q.place == p.place;
        if (like && q.state != 3 && day - q.begun <= span) p.joined += q.sum;
      }
      p.slots.clear();
      p.state = 2;
      for (Rule r : book.rules) {
        if (r.kind == p.kind && r.when.holds(p.joined, p.place, p.urgent)) {
          p.state = 0;
          for (Slot s : r.slots) {
            Slot t = new Slot();
            t.role = s.role;
            t.step = s.step;
            p.slots.add(t);
          }
          return;
        }
      }
    }

    int paper(int kind, int sum, int maker, int place, boolean urgent) {
      if (!canBe(kind, sum, maker, place)) return -1;
      Paper p = fresh(kind, sum, maker, place, urgent);
      begin(p);
      papers.add(p);
      return papers.size() - 1;
    }

    boolean isPaper(int n) { return n >= 0 && n < papers.size(); }

    int of(int n, int what) {
      if (!isPaper(n)) return -1;
      Paper p = papers.get(n);
      int signed = 0;
      for (Slot s : p.slots) if (s.hand >= 0) signed++;
      int[] all = {p.state, p.joined, p.slots.size(), signed, p.step(), p.begun};
      return what < 0 || what > 5 ? -1 : all[what];
    }

    int slot(int n, int k, int what) {
      if (!isPaper(n) || k < 0 || k >= papers.get(n).slots.size() || what < 0 || what > 3) return -1;
      Slot s = papers.get(n).slots.get(k);
      return new int[] {s.role, s.step, s.hand, s.name}[what];
    }

    boolean can(Paper p, int k, int hand, int name) {
      Slot s = p.slots.get(k);
      if (p.state != 0 || s.hand >= 0 || s.step != p.step()) return false;
      if ((roles.get(name) >> s.role & 1) == 0 || hand == p.maker || name == p.maker) return false;
      if ((actsFor(name, p.sum, day, 1 << name) >> hand & 1) == 0) return false;
      for (Slot t : p.slots) {
        if (t.hand >= 0 && (t.hand == hand || t.name == hand || t.hand == name || t.name == name)) return false;
      }
      if (book.day[s.role] >= 0 && signed(name, s.role, day, false) + p.sum > book.day[s.role]) return false;
      return book.month[s.role] < 0 || signed(name, s.role, day, true) + p.sum <= book.month[s.role];
    }

    boolean sign(int n, int k, int hand, int name) {
      if (!isPaper(n) || k < 0 || k >= papers.get(n).slots.size() || !isPerson(hand) || !isPerson(name)) return false;
      Paper p = papers.get(n);
      if (!can(p, k, hand, name)) return false;
      Slot s = p.slots.get(k);
      s.hand = hand;
      s.name = name;
      s.day = day;
      p.state = 1;
      for (Slot t : p.slots) if (t.hand < 0) p.state = 0;
      return true;
    }

    boolean back(int n) {
      if (!isPaper(n) || papers.get(n).state != 0) return false;
      begin(papers.get(n));
      return true;
    }

    boolean withdraw(int n) {
      if (!isPaper(n) || papers.get(n).state % 2 == 1) return false;
      papers.get(n).state = 3;
      return true;
    }

    long signed(int name, int role, int on, boolean month) {
      if (!isPerson(name) || role < 0 || role > 7 || on < 0) return -1;
      long all = 0;
      for (Paper p : papers) {
        for (Slot s : p.slots) {
          boolean then = month ? s.day / 30 == on / 30 : s.day == on;
          if (s.name == name && s.role == role && then) all += p.sum;
        }
      }
      return all;
    }

    int tries;

    /** 1 a way, -2 none, -3 too many; a way stays written in the paper's slots. */
    int seek(Paper p, int k, int set) {
      if (k == p.slots.size()) return 1;
      Slot s = p.slots.get(k);
      if (s.hand >= 0) return seek(p, k + 1, set);
      for (int name = 0; name < roles.size(); name++) {
        for (int hand = 0; hand < roles.size(); hand++) {
          if (tries == 100000) return -3;
          tries++;
          if ((set >> hand & 1) == 0 || !can(p, k, hand, name)) continue;
          s.hand = hand;
          s.name = name;
          int got = seek(p, k + 1, set);
          if (got == 1) return 1;
          s.hand = -1;
          s.name = -1;
          if (got == -3) return -3;
        }
      }
      return -2;
    }

    int way(int n) {
      if (!isPaper(n) || papers.get(n).state != 0) return -1;
      Paper p = papers.get(n);
      List<Integer> open = new ArrayList<>();
      for (int k = 0; k < p.slots.size(); k++) if (p.slots.get(k).hand < 0) open.add(k);
      tries = 0;
      int got = seek(p, 0, -1);
      if (got == 1) way = new int[8][];
      for (int k : open) {
        Slot s = p.slots.get(k);
        if (got == 1) way[k] = new int[] {s.hand, s.name};
        s.hand = -1;
        s.name = -1;
      }
      return got == 1 ? open.size() : got;
    }

    int wayOf(int k, int what) {
      return k < 0 || k > 7 || way[k] == null || what < 0 || what > 1 ? -1 : way[k][what];
    }

    int holders(int n) {
      if (!isPaper(n)) return -1;
      Paper p = papers.get(n);
      int all = 0;
      for (int k = 0; k < p.slots.size(); k++) {
        for (int name = 0; name < roles.size(); name++) {
          for (int hand = 0; hand < roles.size(); hand++) {
            if (can(p, k, hand, name)) all |= 1 << hand;
          }
        }
      }
      return all;
    }

    int greatest(int kind, int place, boolean urgent, int maker, int people) {
      if (!canBe(kind, 0, maker, place) || people < 0 || people >= 1 << roles.size()) return -1;
      Paper p = fresh(kind, 0, maker, place, urgent);
      for (int sum = 1000000; sum >= 0; sum--) {
        int got = wayWith(p, sum, people);
        if (got == 1) return sum;
        if (got == -3) return -3;
      }
      return -2;
    }

    int wayWith(Paper p, int sum, int people) {
      p.sum = sum;
      begin(p);
      tries = 0;
      return p.state == 0 ? seek(p, 0, people) : -2;
    }

    int about(int what) {
      int[] all = {day, roles.size(), aways.size(), deputies.size(), book.rules.size(), book.limits, papers.size(), tape.length()};
      return what < 0 || what > 7 ? -1 : all[what];
    }
  }

  private static int wrong = 0;
  private static int run = 0;
  private static int calls = 0;
  private static final int[] seen = new int[4];

  private static void same(String call, long got, long want) {
    calls++;
    if (got != want && wrong++ < SHOWN) {
      System.out.println("run " + run + ", call " + calls + ": " + call + " answered " + got + ", the model " + want);
    }
  }

  private static void same(String call, boolean got, boolean want) {
    same(call, got ? 1 : 0, want ? 1 : 0);
  }

  /** One random run; all draws come from its own seed. */
  static final class Run {
    final Random r;
    final PenRoom x = new PenRoom();
    final Model m = new Model();
    final int people;
    final boolean heavy;

    Run(long seed, boolean heavy) {
      r = new Random(seed);
      this.heavy = heavy;
      people = heavy ? 8 + r.nextInt(7) : 1 + r.nextInt(5);
    }

    int up(int n) { return r.nextInt(n); }
    boolean odds(int percent) { return r.nextInt(100) < percent; }
    int off(int least, int most) { return odds(3) ? (odds(50) ? least - 1 - up(2) : most + 1 + up(2)) : least + up(most - least + 1); }
    int someone() { return off(0, Math.max(0, m.roles.size() - 1)); }
    int somePaper() { return off(0, Math.max(0, m.papers.size() - 1)); }
    int someSum() { return odds(3) ? (odds(50) ? -1 : 1000001) : odds(70) ? up(40) * 25 : odds(50) ? up(3000) : up(1000001); }

    String number() { return odds(4) ? "0" + up(10) : odds(70) ? "" + up(40) * 25 : odds(90) ? "" + up(3000) : "" + up(10000000); }

    String either(int deep) {
      StringBuilder s = new StringBuilder(one(deep));
      while (odds(30)) s.append(odds(50) ? " or " : " and ").append(one(deep));
      return s.toString();
    }

    String one(int deep) {
      if (deep > 0 && odds(20)) return "not " + one(deep - 1);
      if (deep > 0 && odds(15)) return "(" + either(deep - 1) + ")";
      switch (up(4)) {
        case 0: return "urgent";
        case 1: return "place = " + (odds(3) ? 8 : up(3));
        case 2: return "sum<" + number();
        default: return "sum > " + number();
      }
    }

    /** Many hands for a crowd, of roles that few have: long searches, some of them too long. */
    String crowdRule() {
      return "rule " + KINDS[up(2)] + (odds(40) ? " when sum > " + number() : "") + " : " + (2 + up(2)) + " " + ROLES[up(3)] + " and "
          + (2 + up(2)) + " " + ROLES[up(3)] + (odds(50) ? " then 1 " + ROLES[3 + up(5)] : "") + " then 1 " + ROLES[3 + up(5)] + ";";
    }

    String need() { return (odds(2) ? up(6) : 1 + up(heavy ? 3 : 2)) + " " + ROLES[odds(80) ? up(3) : up(8)]; }

    String line() {
      if (odds(25)) {
        String s = "limit " + ROLES[odds(80) ? up(4) : up(8)];
        if (odds(70)) s += " day " + number();
        if (odds(50)) s += " month " + number();
        return s + ";";
      }
      if (heavy && odds(60)) return crowdRule();
      StringBuilder s = new StringBuilder("rule ").append(KINDS[up(odds(70) ? 2 : 4)]);
      if (odds(60)) s.append(" when ").append(either(odds(10) ? 9 : 2));
      s.append(": ").append(need());
      while (odds(35)) s.append(odds(60) ? " and " : " then ").append(need());
      return s.append(";").toString();
    }

    String text() {
      StringBuilder s = new StringBuilder();
      int lines = odds(5) ? 25 : up(6);
      for (int i = 0; i < lines; i++) s.append(line()).append(odds(50) ? "\n" : odds(50) ? " " : "");
      if (odds(12) && s.length() > 0) {
        int at = up(s.length());
        if (odds(30)) s.setCharAt(at, "#a1:;(<= \n\u00e9".charAt(up(11)));
        else if (odds(50)) s.insert(at, odds(50) ? "zz" : " and ");
        else s.setLength(at);
      }
      if (s.length() > 1000) s.setLength(1000);
      return s.toString();
    }

    void load(String text) {
      same("cut(0)", x.cut(0), m.cut(0));
      for (int i = 0; i < text.length(); i += 20) {
        int[] v = new int[5];
        for (int k = 0; k < 20; k++) v[k / 4] = v[k / 4] << 8 | (i + k < text.length() ? text.charAt(i + k) : ' ');
        same("feed", x.feed(v[0], v[1], v[2], v[3], v[4]), m.feed(v));
      }
      same("cut(" + text.length() + ")", x.cut(text.length()), m.cut(text.length()));
      same("rules() of " + text, x.rules(), m.rules());
      same("fault(0) of " + text, x.fault(0), m.fault(0));
      same("fault(1) of " + text, x.fault(1), m.fault(1));
    }

    void all() {
      load(text());
      for (int i = 0; i < people; i++) {
        int roles = heavy ? up(8) | up(256) & up(256) & up(256) : up(256) & up(256) | 1 << up(3);
        same("person", x.person(roles), m.person(roles));
      }
      int days = heavy ? 30 : 40;
      while (calls + DEAREST <= PROMISED) {
        int which = up(100);
        if (!heavy || which < 2 || which >= 8 || odds(25)) call(which, days);
      }
    }

    void call(int which, int days) {
      int a = someone();
      int b = someone();
      int n = somePaper();
      if (which < 2) {
        int roles = off(0, 255);
        same("roles", x.roles(a, roles), m.roles(a, roles));
      } else if (which < 8) {
        int from = off(0, days);
        int to = from + off(0, 20);
        same("away", x.away(a, from, to), m.away(a, from, to));
      } else if (which < 16) {
        int from = off(0, days);
        int to = from + off(0, 30);
        int upto = someSum();
        same("deputy", x.deputy(a, b, from, to, upto), m.deputy(a, b, from, to, upto));
      } else if (which < 17) {
        int d = off(0, Math.max(0, m.deputies.size() - 1));
        same("end", x.end(d), m.end(d));
      } else if (which < 21) {
        int sum = someSum();
        int on = off(0, days);
        same("acts", x.acts(a, sum, on), m.acts(a, sum, on));
      } else if (which < 26) {
        int later = odds(60) ? up(2) : odds(95) ? up(20) : off(0, 1000);
        same("later", x.later(later), m.later(later));
      } else if (which < 28) {
        load(text());
      } else if (which < 30) {
        int span = off(0, 30);
        same("span", x.span(span), m.span(span));
      } else if (which < 45) {
        int kind = odds(80) ? up(2) : off(0, 3);
        int sum = someSum();
        int place = odds(90) ? up(3) : off(0, 7);
        boolean urgent = odds(40);
        same("paper", x.paper(kind, sum, a, place, urgent), m.paper(kind, sum, a, place, urgent));
      } else if (which < 72) {
        signSome(n, a, b);
      } else if (which < 75) {
        same("back", x.back(n), m.back(n));
      } else if (which < 77) {
        same("withdraw", x.withdraw(n), m.withdraw(n));
      } else if (which < 81) {
        int role = off(0, 7);
        int on = odds(50) ? m.day : off(0, days);
        boolean month = odds(50);
        same("signed", x.signed(a, role, on, month), m.signed(a, role, on, month));
      } else if (which < 88) {
        wayOf(n);
      } else if (which < 92) {
        same("holders", x.holders(n), m.holders(n));
      } else if (which < 93) {
        greatest(a);
      } else if (which < 95) {
        int what = off(0, 7);
        same("about", x.about(what), m.about(what));
      } else {
        stand(n);
      }
    }

    void signSome(int n, int a, int b) {
      int k = odds(40) || !m.isPaper(n) ? off(0, 7) : Math.max(0, m.of(n, 3));
      int hand = odds(60) ? a : b;
      same("sign", x.sign(n, k, hand, a), m.sign(n, k, hand, a));
      if (!odds(40)) return;
      int due = m.way(n);
      same("way", x.way(n), due);
      if (due > 0) {
        for (int s = 0; s < 8; s++) {
          int h = m.wayOf(s, 0);
          int w = m.wayOf(s, 1);
          if (h >= 0 && odds(80)) same("sign by the way", x.sign(n, s, h, w), m.sign(n, s, h, w));
        }
      }
      stand(n);
    }

    void wayOf(int n) {
      int due = m.way(n);
      if (due < 0) seen[-due]++;
      same("way", x.way(n), due);
      int way = up(9);
      for (int s = way - 1; s <= way; s++) {
        for (int what = -1; what < 3; what++) same("wayOf", x.wayOf(s, what), m.wayOf(s, what));
      }
    }

    void greatest(int a) {
      int kind = odds(90) ? up(2) : off(0, 3);
      int place = odds(95) ? up(3) : off(0, 7);
      int set = odds(60) ? (1 << m.roles.size()) - 1 : odds(95) ? up(1 << m.roles.size()) : off(0, (1 << m.roles.size()) - 1);
      boolean urgent = odds(40);
      int got = x.greatest(kind, place, urgent, a, set);
      if (heavy) sample(got, kind, place, urgent, a, set);
      else same("greatest", got, m.greatest(kind, place, urgent, a, set));
    }

    /** A crowd is too slow for the model to look at each sum, so it looks at those where most can change. */
    void sample(int got, int kind, int place, boolean urgent, int maker, int set) {
      if (!m.canBe(kind, 0, maker, place) || set < 0 || set >= 1 << m.roles.size()) {
        same("greatest", got, -1);
        return;
      }
      Paper p = m.fresh(kind, 0, maker, place, urgent);
      if (got >= 0) same("way at the greatest", m.wayWith(p, got, set), 1);
      int first = m.wayWith(p, 1000000, set);
      if (first != -2) same("greatest", got, first == 1 ? 1000000 : -3);
      for (int i = 0; i < 6 && got != -3; i++) {
        int sum = i == 0 ? Math.max(got, -1) + 1 : someSum();
        if (sum > got && m.isSum(sum)) same("no way above the greatest, at " + sum, m.wayWith(p, sum, set), -2);
      }
    }

    void stand(int n) {
      for (int what = -1; what < 7; what++) same("of " + what, x.of(n, what), m.of(n, what));
      int s = off(0, 7);
      for (int what = -1; what < 5; what++) same("slot", x.slot(n, s, what), m.slot(n, s, what));
    }
  }

  /** Two numbers may be told: how many runs, and the first seed. */
  public static void main(String[] args) {
    int runs = args.length > 0 ? Integer.parseInt(args[0]) : 200;
    int first = args.length > 1 ? Integer.parseInt(args[1]) : 1;
    for (run = first; run < first + runs; run++) {
      calls = 0;
      new Run(run, run % 4 == 0).all();
    }
    System.out.println("ways: none " + seen[2] + ", too many tries " + seen[3]);
    System.out.println(wrong == 0 ? "all answers are as the model's" : wrong + " answers are not the model's");
    if (wrong != 0) System.exit(1);
  }
}
