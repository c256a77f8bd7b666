import java.util.Arrays;
import java.util.function.Consumer;

/** The bounds of Terms 4 and of the promises 21 to 24: ways and their tries, holders, and the greatest sum. */
public final class PenRoomBoundsOfWays extends Cases {
  /** Roles and needs whose search takes the number of tries that the name tells; the model counts them one by one. */
  private static final int[] FOUND_AT_100000 = {0, 7, 1, 3, 2, 0, 2, 2, 1, 2, 2};
  private static final int[] FOUND_AT_100001 = {0, 5, 0, 1, 2, 3, 0, 3, 0, 0, 3, 1, 0, 0};
  private static final int[] NONE_IN_100000 = {0, 2, 6, 0, 3, 5, 7, 0, 4, 5};
  private static final int[] PAIRS_BEHIND_100000 = {0, 1, 2, 4, 0, 6, 1, 4, 4, 0, 6, 0, 2};
  private static final String NEEDS_AT_100000 = "3 clerk and 3 head and 1 chief";
  private static final String NEEDS_AT_100001 = "2 clerk and 1 head and 3 clerk then 1 chief";
  private static final String NEEDS_IN_100000 = "1 chief and 1 head and 3 chief then 3 clerk";
  private static final String NEEDS_BEHIND_100000 = "2 clerk and 3 chief and 2 chief then 1 chief";

  /** Thirteen clerks and no head: far more than 100,000 tries, and no way. */
  private static final int[] CLERKS = {0, 1, 1, 1, 1, 1, 1, 1, 1, 1, 1, 1, 1, 1};
  private static final String FAR_TOO_MANY = "3 clerk and 3 clerk and 1 clerk then 1 head";

  /** A desk on which one person is away and has one deputy. */
  private static Desk deputized(String needs, int[] roles, int away, int by) {
    Desk x = room("rule pay : " + needs + ";", roles);
    yes(x.away(away, 0, 9));
    is(x.deputy(away, by, 0, 9, 1000000), 0);
    return x;
  }

  private static Desk foundAtTheLast() { return deputized(NEEDS_AT_100000, FOUND_AT_100000, 4, 6); }
  private static Desk foundOneLater() { return deputized(NEEDS_AT_100001, FOUND_AT_100001, 5, 12); }
  private static Desk pairsLeft() { return deputized(NEEDS_BEHIND_100000, PAIRS_BEHIND_100000, 7, 12); }

  private static void ways() {
    sentence("Promise 21: of the WAY of a PAPER how many SLOTS it signs");
    Desk x = room("rule pay : 1 law and 1 head then 1 law;", LAW, LAW | HEAD, LAW, LAW, LAW);
    is(x.paper(PAY, 10, 0, 0, false), 0);
    is(x.way(0), 3);
    int[] hands = {2, 1, 3};
    for (int s = 0; s < 3; s++) is(x.wayOf(s, 0), hands[s]);
    is(x.of(0, 3), 0);
    sentence("Terms 4: (with what is signed as it is)");
    yes(x.sign(0, 1, 1, 1));
    is(x.way(0), 2);
    is(x.wayOf(0, 0), 2);
    none(x.wayOf(1, 0));
    is(x.wayOf(2, 0), 3);
    yes(x.sign(0, 0, 3, 3));
    is(x.way(0), 1);
    is(x.wayOf(2, 0), 2);
    sentence("Promise 21: -2 if there is none");
    yes(x.roles(2, 0));
    yes(x.roles(4, 0));
    is(x.way(0), -2);
    yes(x.roles(4, LAW));
    is(x.way(0), 1);
    is(x.wayOf(2, 0), 4);
    sentence("Promise 21: NONE if the PAPER is not UNDER WAY");
    yes(x.sign(0, 2, 4, 4));
    none(x.way(0));
    is(x.paper(ORDER, 1, 0, 0, false), 1);
    none(x.way(1));
    is(x.paper(PAY, 1, 0, 0, false), 2);
    yes(x.withdraw(2));
    none(x.way(2));
    for (int paper : new int[] {-1, 3, 40, LOWEST, HIGHEST}) none(x.way(paper));
    sentence("Promise 21: a way signs nothing");
    doesNothing(Cases::busy, d -> d.holders(0));
    Consumer<Desk> told = d -> {
      busy(d);
      d.way(1);
    };
    doesNothing(told, d -> d.way(1));
    doesNothing(told, d -> d.way(2));
    doesNothing(told, d -> d.way(40));
  }

  private static void order() {
    sentence("Terms 4: sought SLOT by SLOT, NAMES in order, for each HANDS in order; the first that is found");
    Desk x = room("rule pay : 1 law then 1 head;", 0, HEAD, LAW, LAW, 0, 0);
    yes(x.away(2, 0, 9));
    is(x.deputy(2, 5, 0, 9, 100), 0);
    is(x.deputy(2, 4, 0, 9, 100), 1);
    is(x.deputy(2, 1, 0, 9, 100), 2);
    is(x.paper(PAY, 100, 0, 0, false), 0);
    is(x.way(0), 2);
    is(x.wayOf(0, 1), 2);
    is(x.wayOf(0, 0), 4);
    is(x.wayOf(1, 1), 1);
    is(x.wayOf(1, 0), 1);
    sentence("Terms 4: such that all could be signed, by HANDS and NAMES that are one each");
    Desk y = room("rule pay : 1 law then 1 head;", 0, LAW, HEAD, 0, 0);
    yes(y.away(1, 0, 9));
    yes(y.away(2, 0, 9));
    is(y.deputy(1, 3, 0, 9, 100), 0);
    is(y.deputy(2, 3, 0, 9, 100), 1);
    is(y.paper(PAY, 100, 0, 0, false), 0);
    is(y.way(0), -2);
    is(y.deputy(1, 4, 0, 9, 99), 2);
    is(y.way(0), -2);
    is(y.deputy(1, 4, 0, 9, 100), 3);
    is(y.way(0), 2);
    is(y.wayOf(0, 0), 4);
    is(y.wayOf(0, 1), 1);
    is(y.wayOf(1, 0), 3);
    is(y.wayOf(1, 1), 2);
    is(y.paper(PAY, 100, 3, 0, false), 1);
    is(y.way(1), -2);
  }

  /** Person 1 is away and has two deputies, so hands there are enough; but the one name can't stand twice. */
  private static void namesOnce() {
    sentence("Terms 4: such that all could be signed, one behind the other: no NAME twice, nor the MAKER's");
    Desk x = room("rule pay : 2 law;", LAW, LAW, 0, 0);
    yes(x.away(0, 0, 0));
    yes(x.away(1, 0, 0));
    for (int by = 2; by < 4; by++) for (int person = 0; person < 2; person++) x.deputy(person, by, 0, 0, 50);
    is(x.paper(PAY, 50, 2, 0, false), 0);
    is(x.paper(PAY, 50, 0, 0, false), 1);
    is(x.way(0), -2);
    is(x.way(1), -2);
    is(x.greatest(PAY, 1, false, 0, 15), -2);
    is(x.holders(0), 8);
    is(x.holders(1), 4 + 8);
    yes(x.sign(1, 1, 3, 1));
    is(x.way(1), -2);
    sentence("Terms 4: HOLDERS: no HAND for the MAKER, or for a NAME of another SLOT of it");
    is(x.holders(1), 0);
    is(x.person(LAW), 4);
    is(x.holders(1), 16);
    is(x.way(1), 1);
    is(x.wayOf(0, 1), 4);
    is(x.greatest(PAY, 1, false, 0, 31), 50);
    is(x.paper(PAY, 50, 4, 1, false), 2);
    is(x.way(2), 2);
    for (int s = 0; s < 2; s++) is(x.wayOf(s, 1), s);
    for (int s = 0; s < 2; s++) is(x.wayOf(s, 0), 2 + s);
  }

  private static void limitsOnAWay() {
    sentence("Terms 4: such that all could be signed today: LIMITS on both sides");
    Desk x = room("rule pay : 1 law then 1 law; limit law day 50;", 0, LAW, LAW);
    is(x.paper(PAY, 51, 0, 0, false), 0);
    is(x.paper(PAY, 50, 0, 1, false), 1);
    is(x.way(0), -2);
    is(x.way(1), 2);
    is(x.paper(PAY, 1, 0, 2, false), 2);
    yes(x.sign(2, 0, 1, 1));
    is(x.way(1), -2);
    is(x.holders(1), 4);
    is(x.way(2), 1);
    x.later(1);
    is(x.way(1), 2);
    is(x.wayOf(0, 0), 1);
    is(x.wayOf(1, 0), 2);
  }

  private static void tries() {
    sentence("Terms 4: each pair that is looked at is a TRY, 100,000 at most");
    Desk x = foundAtTheLast();
    is(x.paper(PAY, 1, 0, 0, false), 0);
    is(x.way(0), 7);
    is(x.wayOf(6, 0), 1);
    Desk z = room("rule pay : " + NEEDS_IN_100000 + ";", NONE_IN_100000);
    is(z.paper(PAY, 1, 0, 0, false), 0);
    is(z.way(0), -2);
    sentence("Promise 21: -3 if a 100,001st TRY would be needed");
    Desk y = foundOneLater();
    is(y.paper(PAY, 1, 0, 0, false), 0);
    is(y.way(0), -3);
    none(y.wayOf(0, 0));
    Desk u = room("rule pay : " + NEEDS_IN_100000 + ";", Arrays.copyOf(NONE_IN_100000, 11));
    is(u.paper(PAY, 1, 0, 0, false), 0);
    is(u.way(0), -3);
    Desk w = pairsLeft();
    is(w.paper(PAY, 1, 0, 0, false), 0);
    is(w.way(0), -3);
    Desk v = room("rule pay : " + FAR_TOO_MANY + ";", CLERKS);
    is(v.paper(PAY, 1, 0, 0, false), 0);
    is(v.way(0), -3);
    is(v.holders(0), (1 << 14) - 2);
    sentence("Terms 4: each search has TRIES of its own");
    for (int i = 0; i < 3; i++) {
      is(x.way(0), 7);
      is(z.way(0), -2);
      is(y.way(0), -3);
    }
    is(v.way(0), -3);
    yes(v.roles(13, CLERK | HEAD));
    is(v.paper(PAY, 1, 0, 1, false), 1);
    is(v.way(1), 8);
    sentence("Terms 4: SLOTS that are signed need no TRIES");
    yes(v.roles(13, CLERK));
    for (int s = 0; s < 5; s++) yes(v.sign(0, s, s + 1, s + 1));
    is(v.way(0), -2);
  }

  /** With one person there is one pair a slot, with none of them the maker's; so 2 people have 4, and none is missed. */
  private static void fewPeople() {
    sentence("Terms 4: a WAY among the fewest PEOPLE");
    Desk x = room("rule pay : 1 law;", LAW);
    is(x.paper(PAY, 1, 0, 0, false), 0);
    is(x.way(0), -2);
    is(x.holders(0), 0);
    is(x.greatest(PAY, 0, false, 0, 1), -2);
    is(x.person(LAW), 1);
    is(x.way(0), 1);
    is(x.wayOf(0, 0), 1);
    is(x.wayOf(0, 1), 1);
    is(x.holders(0), 2);
    is(x.paper(PAY, 1, 1, 0, false), 1);
    is(x.way(1), 1);
    is(x.wayOf(0, 0), 0);
    is(x.wayOf(0, 1), 0);
    is(x.holders(1), 1);
  }

  private static void wayOf() {
    sentence("Promise 22: of the latest way() that told a WAY");
    Desk x = room("rule pay : 1 law; rule bill : 2 law; rule trip : 1 owner;", 0, LAW, LAW, 0);
    is(x.paper(BILL, 1, 0, 0, false), 0);
    is(x.paper(PAY, 1, 0, 0, false), 1);
    is(x.paper(TRIP, 1, 0, 0, false), 2);
    is(x.paper(ORDER, 1, 0, 0, false), 3);
    none(x.wayOf(0, 0));
    is(x.way(2), -2);
    none(x.wayOf(0, 0));
    yes(x.away(2, 0, 0));
    is(x.deputy(2, 3, 0, 0, 5), 0);
    is(x.way(0), 2);
    int[][] due = {{1, 1}, {3, 2}};
    for (int paper : new int[] {2, 3, 40, -1}) {
      x.way(paper);
      for (int s = 0; s < 2; s++) for (int what = 0; what < 2; what++) is(x.wayOf(s, what), due[s][what]);
    }
    is(x.greatest(PAY, 3, false, 0, 8), 5);
    is(x.wayOf(0, 0), 1);
    yes(x.sign(0, 0, 1, 1));
    is(x.wayOf(0, 0), 1);
    sentence("Promise 22: NONE if the WAY has it not");
    for (int what : new int[] {-1, 2, LOWEST, HIGHEST}) none(x.wayOf(0, what));
    for (int slot : new int[] {-1, 2, 7, 8, LOWEST, HIGHEST}) for (int what = 0; what < 2; what++) none(x.wayOf(slot, what));
    is(x.way(1), 1);
    is(x.wayOf(0, 0), 1);
    for (int what = 0; what < 2; what++) none(x.wayOf(1, what));
    is(x.way(0), 1);
    for (int what = 0; what < 2; what++) none(x.wayOf(0, what));
    is(x.wayOf(1, 0), 3);
    is(x.wayOf(1, 1), 2);
  }

  private static void holders() {
    sentence("Terms 4: HOLDERS: all PEOPLE who could be HAND of some open SLOT of its step now");
    Desk x = room("rule pay : 1 law and 1 head then 1 chief; limit head day 50;", 255, LAW, HEAD, CHIEF, LAW | HEAD, 0);
    is(x.paper(PAY, 50, 0, 0, false), 0);
    is(x.holders(0), 2 + 4 + 16);
    is(x.paper(PAY, 51, 0, 1, false), 1);
    is(x.holders(1), 2 + 16);
    yes(x.sign(0, 1, 4, 4));
    is(x.holders(0), 2);
    yes(x.away(1, 0, 0));
    is(x.holders(0), 0);
    is(x.deputy(1, 4, 0, 0, 100), 0);
    is(x.deputy(1, 0, 0, 0, 100), 1);
    is(x.deputy(1, 5, 0, 0, 49), 2);
    is(x.holders(0), 0);
    is(x.deputy(1, 5, 0, 0, 50), 3);
    is(x.holders(0), 32);
    is(x.holders(1), 16);
    x.later(1);
    is(x.holders(0), 2);
    yes(x.sign(0, 0, 1, 1));
    is(x.holders(0), 8);
    sentence("Promise 23: 0 if the PAPER is not UNDER WAY");
    yes(x.sign(0, 2, 3, 3));
    is(x.holders(0), 0);
    is(x.paper(BILL, 1, 0, 0, false), 2);
    is(x.holders(2), 0);
    yes(x.withdraw(1));
    is(x.holders(1), 0);
    sentence("Promise 23: NONE if there is none such");
    for (int paper : new int[] {-1, 3, 40, LOWEST, HIGHEST}) none(x.holders(paper));
  }

  private static void greatestAsked() {
    sentence("Promise 24: NONE if it can't be asked (people beyond those there are, too)");
    Desk x = room("rule pay : 1 law; rule trip when place = 7 : 1 law; rule bill : 1 law;", 0, LAW);
    is(x.greatest(PAY, 0, false, 0, 3), 1000000);
    is(x.greatest(PAY, 0, false, 0, 2), 1000000);
    is(x.greatest(TRIP, 7, false, 0, 3), 1000000);
    is(x.greatest(TRIP, 6, false, 0, 3), -2);
    is(x.greatest(BILL, 0, false, 0, 3), 1000000);
    is(x.greatest(PAY, 0, false, 1, 3), -2);
    is(x.greatest(PAY, 0, false, 0, 0), -2);
    is(x.greatest(PAY, 0, false, 0, 1), -2);
    for (int kind : new int[] {-1, 4, LOWEST, HIGHEST}) none(x.greatest(kind, 0, false, 0, 3));
    for (int place : new int[] {-1, 8, LOWEST, HIGHEST}) none(x.greatest(PAY, place, false, 0, 3));
    for (int maker : new int[] {-1, 2, 14, 32, LOWEST, HIGHEST}) none(x.greatest(PAY, 0, false, maker, 3));
    for (int people : new int[] {-1, 4, 7, 1 << 14, LOWEST, HIGHEST}) none(x.greatest(PAY, 0, false, 0, people));
    sentence("Promise 24: NONE if there are 40 PAPERS");
    for (int i = 0; i < 39; i++) is(x.paper(ORDER, 0, 0, 0, false), i);
    is(x.greatest(PAY, 0, false, 0, 2), 1000000);
    is(x.paper(ORDER, 0, 0, 0, false), 39);
    none(x.greatest(PAY, 0, false, 0, 2));
    yes(x.withdraw(0));
    none(x.greatest(PAY, 0, false, 0, 2));
    sentence("Promise 24: to ask for it makes no PAPER, and changes nothing");
    doesNothing(Cases::busy, d -> d.greatest(PAY, 0, false, 0, 31));
    doesNothing(Cases::busy, d -> d.greatest(BILL, 0, true, 0, 31));
    doesNothing(Cases::busy, d -> d.greatest(PAY, 0, true, 0, 32));
  }

  private static void greatestSums() {
    sentence("Terms 4: GREATEST: sums from 1000000 down: a test, a limit, a DEPUTY's amount on both sides");
    Desk x = room("rule pay when sum < 700 : 1 clerk; rule pay when sum > 900 : 1 chief; rule bill when not sum > 700 : 1 clerk;"
        + "limit chief day 999999;", 0, CLERK, CHIEF, 0);
    is(x.greatest(PAY, 0, false, 0, 2), 699);
    is(x.greatest(PAY, 0, false, 0, 4), 999999);
    is(x.greatest(BILL, 0, false, 0, 2), 700);
    yes(x.away(1, 0, 0));
    is(x.greatest(PAY, 0, false, 0, 2 + 8), -2);
    is(x.deputy(1, 3, 0, 0, 699), 0);
    is(x.greatest(PAY, 0, false, 0, 8), 699);
    is(x.greatest(BILL, 0, false, 0, 8), 699);
    is(x.greatest(PAY, 0, false, 0, 2), -2);
    is(x.deputy(1, 3, 0, 0, 1000000), 1);
    is(x.greatest(PAY, 0, false, 0, 8), 699);
    is(x.greatest(BILL, 0, false, 0, 8), 700);
    yes(x.end(1));
    yes(x.end(0));
    is(x.deputy(1, 3, 1, 9, 500), 2);
    is(x.greatest(PAY, 0, false, 0, 8), -2);
    is(x.deputy(1, 3, 0, 9, 1), 3);
    is(x.greatest(PAY, 0, false, 0, 8), 1);
    sentence("Terms 4: GREATEST: sums down to 0; -2 if there is no such sum");
    yes(x.end(3));
    is(x.deputy(1, 3, 0, 9, 0), 4);
    is(x.greatest(PAY, 0, false, 0, 8), 0);
    yes(x.end(4));
    is(x.greatest(PAY, 0, false, 0, 8), -2);
    Desk y = room("rule pay when sum < 1 : 1 clerk; rule bill : 1 clerk; rule trip when sum > 999999 : 1 head;"
        + "rule order when sum > 1000000 : 1 head; limit clerk month 0;", 0, CLERK, HEAD);
    is(y.greatest(PAY, 0, false, 0, 2), 0);
    is(y.greatest(BILL, 0, false, 0, 2), 0);
    is(y.greatest(TRIP, 0, false, 0, 4), 1000000);
    is(y.greatest(ORDER, 0, false, 0, 4), -2);
    is(load(y, "rule pay when sum < 0 : 1 clerk; rule bill : 1 owner; rule trip when sum < 1000000 : 1 head;"
        + "rule order when not sum < 1000000 : 1 head;"), 4);
    is(y.greatest(PAY, 0, false, 0, 2), -2);
    is(y.greatest(BILL, 0, false, 0, 7), -2);
    is(y.greatest(TRIP, 0, false, 0, 4), 999999);
    is(y.greatest(ORDER, 0, false, 0, 4), 1000000);
  }

  private static void greatestByFullRules() {
    sentence("Terms 4: GREATEST by as many rules and tests as a text may hold, the last of them too");
    Desk x = room(times(19, "rule pay when sum>9:1 head;") + "rule pay when not sum>8:1 law;", 0, LAW);
    is(x.about(4), 20);
    is(x.greatest(PAY, 0, false, 0, 2), 8);
    is(x.greatest(BILL, 0, false, 0, 2), -2);
    Desk y = room("rule pay when " + times(59, "sum>99 or ") + "sum>7:1 head;" + times(18, "rule bill:1 law;") + "rule pay:1 law;", 0, LAW);
    is(y.about(4), 20);
    is(y.greatest(PAY, 0, false, 0, 2), 7);
    is(y.greatest(BILL, 0, false, 0, 2), 1000000);
  }

  private static void greatestByLimits() {
    sentence("Terms 4: GREATEST by what the day's and the month's LIMITS leave");
    Desk x = room("rule pay : 1 law; limit law day 100 month 150;", 0, LAW, LAW);
    is(x.greatest(PAY, 0, false, 0, 2), 100);
    is(x.paper(PAY, 60, 0, 1, false), 0);
    yes(x.sign(0, 0, 1, 1));
    is(x.greatest(PAY, 0, false, 0, 2), 40);
    is(x.greatest(PAY, 0, false, 0, 4), 100);
    is(x.greatest(PAY, 0, false, 0, 6), 100);
    x.later(1);
    is(x.greatest(PAY, 0, false, 0, 2), 90);
    is(x.paper(PAY, 90, 0, 1, false), 1);
    yes(x.sign(1, 0, 1, 1));
    is(x.greatest(PAY, 0, false, 0, 2), 0);
    is(load(x, "rule pay : 1 law; limit law day 89;"), 1);
    is(x.greatest(PAY, 0, false, 0, 2), -2);
    is(load(x, "rule pay : 1 law; limit law day 90;"), 1);
    is(x.greatest(PAY, 0, false, 0, 2), 0);
    is(load(x, "rule pay : 1 law; limit law day 91;"), 1);
    is(x.greatest(PAY, 0, false, 0, 2), 1);
    is(load(x, "rule pay : 1 law; limit law day 1000089;"), 1);
    is(x.greatest(PAY, 0, false, 0, 2), 999999);
    is(load(x, "rule pay : 1 law; limit law day 1000090;"), 1);
    is(x.greatest(PAY, 0, false, 0, 2), 1000000);
    Desk y = room("rule pay : 1 clerk; limit clerk day 70;", CLERK, 0);
    is(y.greatest(PAY, 0, false, 1, 3), 70);
    is(y.greatest(PAY, 0, false, 1, 1), 70);
    is(y.greatest(PAY, 0, false, 0, 3), -2);
  }

  private static void greatestJoined() {
    sentence("Terms 4: GREATEST of a PAPER BEGUN today: its RULE by what would be JOINED");
    Desk x = room("rule pay when sum > 1000 : 1 chief; rule pay when not sum < 700 : 1 clerk;", 0, CLERK, CHIEF);
    yes(x.span(1));
    is(x.greatest(PAY, 0, false, 0, 2), 1000);
    is(x.paper(PAY, 300, 0, 0, false), 0);
    x.later(1);
    is(x.greatest(PAY, 0, false, 0, 2), 700);
    is(x.greatest(PAY, 1, false, 0, 2), 1000);
    is(x.paper(PAY, 700, 0, 0, false), 1);
    is(x.greatest(PAY, 0, false, 0, 2), 0);
    is(x.paper(PAY, 1, 0, 0, false), 2);
    is(x.greatest(PAY, 0, false, 0, 2), -2);
    is(x.greatest(PAY, 0, false, 0, 4), 1000000);
    yes(x.withdraw(2));
    is(x.greatest(PAY, 0, false, 0, 2), 0);
    x.later(1);
    is(x.greatest(PAY, 0, false, 0, 2), 300);
    x.later(1);
    is(x.greatest(PAY, 0, false, 0, 2), 1000);
    sentence("Terms 4: GREATEST of a MAKER, URGENT or not");
    Desk y = room("rule pay when urgent : 1 clerk; rule pay when sum < 6 : 1 clerk;", CLERK, CLERK);
    is(y.greatest(PAY, 0, true, 0, 3), 1000000);
    is(y.greatest(PAY, 0, false, 0, 3), 5);
    is(y.greatest(PAY, 0, true, 0, 1), -2);
    is(y.greatest(PAY, 0, true, 1, 1), 1000000);
    is(y.paper(PAY, 3, 0, 0, false), 0);
    is(y.greatest(PAY, 0, false, 0, 3), 2);
    is(y.greatest(PAY, 0, false, 1, 3), 5);
  }

  private static void greatestSet() {
    sentence("Terms 4: GREATEST: a WAY of which all HANDS are of the set; NAMES may be others");
    Desk x = room("rule pay : 1 law then 1 head;", 0, LAW, HEAD, 0);
    is(x.greatest(PAY, 0, false, 0, 2), -2);
    is(x.greatest(PAY, 0, false, 0, 4), -2);
    is(x.greatest(PAY, 0, false, 0, 2 + 4), 1000000);
    yes(x.away(1, 0, 0));
    is(x.deputy(1, 3, 0, 0, 80), 0);
    is(x.greatest(PAY, 0, false, 0, 4 + 8), 80);
    is(x.greatest(PAY, 0, false, 0, 2 + 4), -2);
    is(x.greatest(PAY, 0, false, 3, 4 + 8), -2);
  }

  private static void greatestTries() {
    sentence("Terms 4: GREATEST: each sum sought by its own TRIES, 100,000 at most");
    is(foundAtTheLast().greatest(PAY, 0, false, 0, 2047), 1000000);
    is(room("rule pay : " + NEEDS_IN_100000 + ";", NONE_IN_100000).greatest(PAY, 0, false, 0, 1023), -2);
    Desk x = room("rule pay when sum > 500 : " + NEEDS_IN_100000 + "; rule pay when sum > 300 : " + NEEDS_IN_100000
        + "; rule pay : 1 chief; limit chief day 900;", NONE_IN_100000);
    is(x.greatest(PAY, 0, false, 0, 1023), 300);
    sentence("Promise 24: -3 if the first that is not without a WAY would need a 100,001st TRY");
    is(foundOneLater().greatest(PAY, 0, false, 0, 16383), -3);
    is(pairsLeft().greatest(PAY, 0, false, 0, 8191), -3);
    Desk y = room("rule pay when sum > 500 : " + FAR_TOO_MANY + "; rule pay : 1 clerk;", CLERKS);
    is(y.greatest(PAY, 0, false, 0, 16383), -3);
    is(y.greatest(PAY, 0, false, 0, 31), 500);
    is(load(y, "rule pay when sum > 600 : 1 head; rule pay when sum > 500 : " + FAR_TOO_MANY + "; rule pay : 1 clerk;"), 3);
    is(y.greatest(PAY, 0, false, 0, 16383), -3);
    is(load(y, "rule pay when sum > 600 : 1 clerk; rule pay : " + FAR_TOO_MANY + ";"), 2);
    is(y.greatest(PAY, 0, false, 0, 16383), 1000000);
    is(load(y, "rule pay when sum > 0 : 1 head; rule pay : " + FAR_TOO_MANY + ";"), 2);
    is(y.greatest(PAY, 0, false, 0, 16383), -3);
    sentence("Terms 4: (others are passed over as HANDS, each a TRY all the same)");
    int[] oneMore = Arrays.copyOf(NONE_IN_100000, 11);
    is(room("rule pay : " + NEEDS_IN_100000 + ";", oneMore).greatest(PAY, 0, false, 0, 1023), -3);
  }

  public static void main(String[] args) {
    ways();
    order();
    namesOnce();
    limitsOnAWay();
    tries();
    fewPeople();
    wayOf();
    holders();
    greatestAsked();
    greatestSums();
    greatestByFullRules();
    greatestByLimits();
    greatestJoined();
    greatestSet();
    greatestTries();
    finish();
  }
}
