import java.util.ArrayList;
import java.util.List;
import java.util.function.Consumer;
import java.util.function.Predicate;
import java.util.function.ToIntFunction;

/** What the tests share: answers that are due, texts of rules, and calls that must be refused and do nothing. */
class Cases {
  static final int LOWEST = Integer.MIN_VALUE, HIGHEST = Integer.MAX_VALUE;
  static final int NONE = -1;
  static final int BILL = 0, ORDER = 1, PAY = 2, TRIP = 3;
  static final int CLERK = 1, HEAD = 2, CHIEF = 4, MONEY = 8, LAW = 16, BOARD = 32, GUARD = 64, OWNER = 128;
  static final String[] KIND_WORDS = {"bill", "order", "pay", "trip"};
  static final String[] ROLE_WORDS = {"clerk", "head", "chief", "money", "law", "board", "guard", "owner"};

  private static final int SHOWN = 40;
  private static int wrong = 0;
  private static int answers = 0;
  private static int sentences = 0;
  private static String sentence = "";

  /** What follows tests this sentence of the document. */
  static void sentence(String words) {
    sentence = words;
    sentences++;
  }

  static void due(String what, long got, long want) {
    answers++;
    if (got != want && wrong++ < SHOWN) {
      System.out.println(sentence + ": " + what + " answered " + got + ", due is " + want);
    }
  }

  static void is(long got, long want) { due(Desk.latest(), got, want); }
  static void none(long got) { due(Desk.latest(), got, NONE); }
  static void yes(boolean got) { due(Desk.latest(), got ? 1 : 0, 1); }
  static void no(boolean got) { due(Desk.latest(), got ? 1 : 0, 0); }
  static void yes(String what, boolean got) { due(what, got ? 1 : 0, 1); }
  static void no(String what, boolean got) { due(what, got ? 1 : 0, 0); }

  static void finish() {
    System.out.println(answers + " answers to " + sentences + " sentences, " + wrong + " not as due");
    if (wrong != 0) System.exit(1);
  }

  static String times(int n, String s) { return s.repeat(n); }

  /** Twenty bytes of a text from a place on, as five numbers; behind its end there are blanks. */
  static int[] twenty(String text, int from) {
    int[] five = new int[5];
    for (int k = 0; k < 20; k++) {
      five[k / 4] = five[k / 4] << 8 | (from + k < text.length() ? text.charAt(from + k) : ' ');
    }
    return five;
  }

  static int feedTwenty(Desk x, String text, int from) {
    int[] v = twenty(text, from);
    return x.feed(v[0], v[1], v[2], v[3], v[4]);
  }

  /** Feeds a text behind what is on the tape; the blanks behind it are cut off again. */
  static void feed(Desk x, String text) {
    int before = x.about(7);
    for (int i = 0; i < text.length(); i += 20) is(feedTwenty(x, text, i), before + i + 20);
    is(x.cut(before + text.length()), before + text.length());
  }

  static int load(Desk x, String text) {
    feed(x, text);
    return x.rules();
  }

  /** A desk with these rules, which have no fault, and people with these roles. */
  static Desk room(String text, int... roles) {
    Desk x = new Desk();
    load(x, text);
    due("fault(0) of " + text, x.fault(0), 0);
    for (int i = 0; i < roles.length; i++) is(x.person(roles[i]), i);
    return x;
  }

  /** The fault's place is where the text has a mark, which is taken out; without a mark there must be no fault. */
  static void fault(int number, String marked) {
    int place = marked.indexOf('@');
    Desk x = new Desk();
    load(x, "rule bill : 1 law; limit head day 5;");
    int rules = load(x, marked.replace("@", ""));
    due("fault(0) of " + marked, x.fault(0), number);
    due("fault(1) of " + marked, x.fault(1), place);
    due("the tape behind rules() of " + marked, x.about(7), 0);
    if (number != 0) {
      due("rules() of " + marked, rules, NONE);
      due("rules that stay behind " + marked, x.about(4), 1);
      due("limits that stay behind " + marked, x.about(5), 1);
    }
  }

  /** A text without a fault, with so many rules. */
  static void good(int rules, String text) {
    Desk x = new Desk();
    due("rules() of " + text, load(x, text), rules);
    due("fault(0) of " + text, x.fault(0), 0);
    due("fault(1) of " + text, x.fault(1), NONE);
    due("about(4) behind " + text, x.about(4), rules);
    due("about(7) behind " + text, x.about(7), 0);
  }

  /**
   * A desk where much stands: papers in all four states, one half signed and one signed by a deputy; an ended deputy;
   * limits; a told way; and a text on the tape. What a refused call might touch can be seen on it.
   */
  static void busy(Desk x) {
    load(x, "rule pay when sum > 100 : 2 law then 1 head; rule pay : 1 law and 1 head; rule bill when urgent : 1 clerk;"
        + "limit law day 500 month 900; limit head month 2000;");
    for (int roles : new int[] {LAW | HEAD, LAW, LAW, HEAD, CLERK | HEAD}) x.person(roles);
    x.span(2);
    x.away(2, 1, 3);
    x.deputy(2, 4, 0, 5, 300);
    x.deputy(2, 1, 0, 5, 50);
    x.end(1);
    x.paper(PAY, 80, 0, 0, false);
    x.sign(0, 0, 1, 1);
    x.later(1);
    x.paper(PAY, 60, 0, 0, false);
    x.sign(1, 1, 4, 2);
    x.paper(PAY, 30, 3, 1, true);
    x.sign(2, 0, 1, 1);
    x.sign(2, 1, 0, 0);
    x.paper(BILL, 5, 0, 0, false);
    x.paper(BILL, 7, 0, 0, true);
    x.withdraw(4);
    x.way(0);
    feed(x, "rule trip : 1 law; x");
  }

  /** A call that must answer NONE, and do nothing. */
  static void refused(Consumer<Desk> before, ToIntFunction<Desk> call) {
    none(call.applyAsInt(made(before)));
    doesNothing(before, call::applyAsInt);
  }

  /** A call that must answer false, and do nothing. */
  static void denied(Consumer<Desk> before, Predicate<Desk> call) {
    no(call.test(made(before)));
    doesNothing(before, call::test);
  }

  private static Desk made(Consumer<Desk> before) {
    Desk x = new Desk();
    before.accept(x);
    return x;
  }

  /** Two desks are made alike, and the call comes on one of them: whatever is asked then, both answer the same. */
  static void doesNothing(Consumer<Desk> before, Consumer<Desk> call) {
    for (Consumer<Answers> look : LOOKS) {
      Desk with = made(before);
      call.accept(with);
      String told = Desk.latest();
      Answers got = new Answers(with, look);
      Answers want = new Answers(made(before), look);
      due("behind a refused " + told + " " + got.firstOther(want), got.same(want) ? 1 : 0, 1);
    }
  }

  private static final List<Consumer<Answers>> LOOKS = List.of(
      Cases::lookAtCounts, Cases::lookAtDeputies, a -> lookAtSigned(a, false), a -> lookAtSigned(a, true),
      Cases::lookAtWays, Cases::lookAtNewPapers, Cases::lookAtTape, Cases::lookAtNextNumbers,
      a -> lookAtPapers(a, 0, 5), a -> lookAtPapers(a, 5, 10), a -> lookAtPapers(a, 36, 40));

  /** What one desk answered to a row of calls. */
  private static final class Answers {
    final Desk x;
    final List<Long> all = new ArrayList<>();
    final List<String> calls = new ArrayList<>();

    Answers(Desk x, Consumer<Answers> look) {
      this.x = x;
      look.accept(this);
    }

    void note(long answer) {
      all.add(answer);
      calls.add(Desk.latest());
    }

    boolean same(Answers other) { return all.equals(other.all); }

    String firstOther(Answers other) {
      for (int i = 0; i < all.size() && i < other.all.size(); i++) {
        if (!all.get(i).equals(other.all.get(i))) return calls.get(i) + " is another, and that nothing is";
      }
      return "nothing is another, which";
    }
  }

  private static void lookAtCounts(Answers a) {
    for (int what = 0; what < 8; what++) a.note(a.x.about(what));
    for (int what = 0; what < 2; what++) a.note(a.x.fault(what));
    for (int slot = 0; slot < 8; slot++) for (int what = 0; what < 2; what++) a.note(a.x.wayOf(slot, what));
  }

  private static void lookAtPapers(Answers a, int from, int to) {
    for (int n = from; n < to; n++) {
      for (int what = 0; what < 6; what++) a.note(a.x.of(n, what));
      for (int slot = 0; slot < 4; slot++) for (int what = 0; what < 4; what++) a.note(a.x.slot(n, slot, what));
      a.note(a.x.holders(n));
    }
  }

  private static void lookAtDeputies(Answers a) {
    for (int person = 0; person < 14; person++) {
      for (int day = 0; day < 7; day++) a.note(a.x.acts(person, 30, day));
      a.note(a.x.acts(person, 300, 1));
      a.note(a.x.acts(person, 1000000, 100000));
    }
  }

  private static void lookAtSigned(Answers a, boolean month) {
    for (int name = 0; name < 14; name++) for (int role = 0; role < 8; role++) a.note(a.x.signed(name, role, a.x.about(0), month));
  }

  private static void lookAtWays(Answers a) {
    int all = (1 << a.x.about(1)) - 1;
    for (int kind = 0; kind < 4; kind++) a.note(a.x.greatest(kind, 0, true, 0, all));
    for (int maker = 0; maker < 5; maker++) a.note(a.x.greatest(PAY, 0, false, maker, all));
    for (int n = 0; n < 5; n++) {
      a.note(a.x.way(n));
      for (int slot = 0; slot < 3; slot++) for (int what = 0; what < 2; what++) a.note(a.x.wayOf(slot, what));
    }
  }

  /** New papers show the span, the rules and what is joined. */
  private static void lookAtNewPapers(Answers a) {
    for (int day = 0; day < 4; day++) {
      for (int kind = 0; kind < 4; kind++) {
        int n = a.x.paper(kind, 1, 0, 0, true);
        a.note(n);
        for (int what = 0; what < 6; what++) a.note(a.x.of(n, what));
      }
      a.note(a.x.later(1));
    }
  }

  private static void lookAtTape(Answers a) {
    a.note(a.x.rules());
    lookAtCounts(a);
    a.note(a.x.feed(0x72756c65, 0x20706179, 0x3a31206c, 0x61773b20, 0x20202020));
    a.note(a.x.rules());
    lookAtCounts(a);
  }

  private static void lookAtNextNumbers(Answers a) {
    a.note(a.x.person(255));
    a.note(a.x.away(0, 1, 1) ? 1 : 0);
    a.note(a.x.deputy(0, 3, 1, 1, 1000));
    for (int deputy = 0; deputy < 30; deputy++) a.note(a.x.end(deputy) ? 1 : 0);
    lookAtCounts(a);
  }
}
