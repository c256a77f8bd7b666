import java.util.function.Consumer;

/** The bounds of Terms 1 and of the promises 1 to 8 and 25: people, roles, days away, deputies and the day. */
public final class PenRoomBoundsOfPeople extends Cases {
  private static final int[] NO_NUMBERS = {-1, LOWEST, HIGHEST};

  /** The busy desk with as many people as there may be: 5 are there, 9 more come. */
  private static void crowded(Desk x) {
    busy(x);
    for (int i = 5; i < 14; i++) x.person(i);
  }

  private static void newObject() {
    sentence("Promise 1: no PEOPLE, no RULES; DAY 0");
    Desk x = new Desk();
    for (int what = 0; what < 8; what++) is(x.about(what), 0);
    is(x.fault(0), 0);
    none(x.fault(1));
    for (int slot = 0; slot < 8; slot++) for (int what = 0; what < 2; what++) none(x.wayOf(slot, what));
    no(x.roles(0, 0));
    no(x.away(0, 0, 0));
    none(x.deputy(0, 1, 0, 0, 0));
    no(x.end(0));
    none(x.acts(0, 0, 0));
    none(x.paper(BILL, 0, 0, 0, false));
    none(x.of(0, 0));
    none(x.slot(0, 0, 0));
    no(x.sign(0, 0, 0, 0));
    no(x.back(0));
    no(x.withdraw(0));
    none(x.signed(0, 0, 0, false));
    none(x.way(0));
    none(x.holders(0));
    none(x.greatest(BILL, 0, false, 0, 0));
    none(x.cut(1));
    is(x.cut(0), 0);
    is(x.later(0), 0);
    for (int what = 0; what < 8; what++) is(x.about(what), 0);
  }

  private static void newObjectsAreApart() {
    sentence("Promise 1: a new object has nothing of another one");
    Desk x = new Desk();
    crowded(x);
    Desk y = new Desk();
    for (int what = 0; what < 8; what++) is(y.about(what), 0);
    none(y.of(0, 0));
    is(y.person(0), 0);
    is(y.paper(PAY, 1, 0, 0, false), 0);
    is(y.of(0, 0), 2);
    is(x.about(1), 14);
    is(x.about(6), 5);
  }

  private static void lastCall() {
    sentence("An object is used for at most 512 calls: the 512th answers yet");
    Desk x = new Desk();
    is(x.person(LAW), 0);
    for (int i = 1; i <= 510; i++) is(x.later(100), i * 100);
    is(x.about(0), 51000);
    due("calls", x.calls(), 512);
  }

  private static void constant() {
    sentence("The constants: NONE = -1");
    due("NONE", PenRoom.NONE, -1);
  }

  private static void rolesOfAPerson() {
    sentence("Promise 2: a PERSON with ROLES (0 .. 255): NONE, doing nothing, if it can't be");
    Desk x = new Desk();
    is(x.person(0), 0);
    is(x.person(255), 1);
    is(x.about(1), 2);
    for (int roles : new int[] {-1, 256, 511, LOWEST, HIGHEST}) refused(Cases::busy, d -> d.person(roles));
  }

  private static void fourteenPeople() {
    sentence("Promise 2: NONE, doing nothing, if there are 14");
    Desk x = new Desk();
    for (int i = 0; i < 13; i++) is(x.person(0), i);
    none(x.person(256));
    is(x.person(0), 13);
    is(x.about(1), 14);
    none(x.person(0));
    none(x.person(255));
    is(x.about(1), 14);
    for (int roles : new int[] {0, 255, 256, -1}) refused(PenRoomBoundsOfPeople::crowded, d -> d.person(roles));
  }

  private static void lastPerson() {
    sentence("Terms 1: PEOPLE, 14 at most: the 14th can all that others can, the 15th is not there");
    Desk x = new Desk();
    load(x, "rule pay : 1 law; limit law day 70;");
    for (int i = 0; i < 14; i++) x.person(i == 13 ? LAW : 0);
    is(x.acts(13, 0, 0), 1 << 13);
    none(x.acts(14, 0, 0));
    is(x.paper(PAY, 70, 0, 0, false), 0);
    is(x.holders(0), 1 << 13);
    is(x.way(0), 1);
    is(x.wayOf(0, 0), 13);
    is(x.wayOf(0, 1), 13);
    is(x.greatest(PAY, 1, false, 0, (1 << 14) - 1), 70);
    is(x.greatest(PAY, 1, false, 0, 1 << 13), 70);
    is(x.greatest(PAY, 1, false, 0, (1 << 13) - 1), -2);
    none(x.greatest(PAY, 1, false, 0, 1 << 14));
    no(x.sign(0, 0, 14, 14));
    no(x.sign(0, 0, 13, 14));
    no(x.sign(0, 0, 14, 13));
    yes(x.sign(0, 0, 13, 13));
    is(x.signed(13, 4, 0, false), 70);
    none(x.signed(14, 4, 0, false));
    yes(x.away(13, 0, 0));
    no(x.away(14, 0, 0));
    is(x.deputy(13, 0, 0, 0, 5), 0);
    none(x.deputy(14, 0, 0, 0, 5));
    is(x.deputy(0, 13, 0, 0, 5), 1);
    none(x.deputy(0, 14, 0, 0, 5));
    is(x.acts(13, 5, 0), 1);
    yes(x.roles(13, 255));
    no(x.roles(14, 255));
    is(x.paper(PAY, 1, 13, 0, false), 1);
    none(x.paper(PAY, 1, 14, 0, false));
    none(x.greatest(PAY, 1, false, 14, 0));
  }

  private static void roleBits() {
    sentence("Terms 1: ROLES (bits: 0 clerk, 1 head, 2 chief, 3 money, 4 law, 5 board, 6 guard, 7 owner)");
    for (int role = 0; role < 8; role++) {
      String word = ROLE_WORDS[role];
      Desk x = room("rule pay : 1 " + word + "; limit " + word + " day 9;", 0, 255 - (1 << role), 1 << role, 1 << role);
      is(x.paper(PAY, 9, 0, 0, false), 0);
      is(x.slot(0, 0, 0), role);
      is(x.holders(0), 4 + 8);
      no(x.sign(0, 0, 1, 1));
      yes(x.sign(0, 0, 2, 2));
      for (int other = 0; other < 8; other++) is(x.signed(2, other, 0, false), other == role ? 9 : 0);
      is(x.paper(PAY, 1, 0, 0, false), 1);
      is(x.holders(1), 8);
    }
  }

  private static void rolesToldAnew() {
    sentence("Promise 3: a PERSON's ROLES are these: true; false, doing nothing, if one can't be");
    Desk x = room("rule pay : 1 head;", 0, CLERK);
    is(x.paper(PAY, 5, 0, 0, false), 0);
    is(x.holders(0), 0);
    yes(x.roles(1, 255));
    is(x.holders(0), 2);
    yes(x.roles(1, 255 - HEAD));
    is(x.holders(0), 0);
    yes(x.roles(1, HEAD));
    is(x.holders(0), 2);
    yes(x.roles(1, 0));
    is(x.holders(0), 0);
    yes(x.roles(0, 255));
    no(x.roles(2, HEAD));
    for (int person : new int[] {-1, 5, 14, 32, 33, LOWEST, HIGHEST}) denied(Cases::busy, d -> d.roles(person, CLERK));
    for (int roles : new int[] {-1, 256, 257, LOWEST, HIGHEST}) denied(Cases::busy, d -> d.roles(1, roles));
    denied(PenRoomBoundsOfPeople::crowded, d -> d.roles(14, CLERK));
  }

  private static void daysAway() {
    sentence("Promise 4: AWAY on days from .. to");
    Desk x = room("", 0, 0, 0, 0);
    yes(x.away(0, 5, 7));
    int[] due = {1, 0, 0, 0, 1};
    for (int day = 4; day <= 8; day++) is(x.acts(0, 0, day), due[day - 4]);
    is(x.acts(1, 0, 6), 2);
    yes(x.away(1, 9, 9));
    is(x.acts(1, 0, 8), 2);
    is(x.acts(1, 0, 9), 0);
    is(x.acts(1, 0, 10), 2);
    yes(x.away(0, 8, 8));
    is(x.acts(0, 0, 7), 0);
    is(x.acts(0, 0, 8), 0);
    is(x.acts(0, 0, 9), 1);
    yes(x.away(0, 6, 12));
    is(x.acts(0, 0, 5), 0);
    is(x.acts(0, 0, 12), 0);
    is(x.acts(0, 0, 13), 1);
    yes(x.away(2, 0, 0));
    is(x.acts(2, 0, 0), 0);
    is(x.acts(2, 0, 1), 4);
    yes(x.away(3, 100000, 100000));
    is(x.acts(3, 0, 99999), 8);
    is(x.acts(3, 0, 100000), 0);
    is(x.acts(3, 0, 100001), 8);
    yes(x.away(3, 0, 100000));
    is(x.acts(3, 0, 0), 0);
    is(x.acts(3, 0, HIGHEST), 8);
  }

  private static void daysAwayThatCannotBe() {
    sentence("Promise 4: days from .. to (0 .. 100000, from at most to); false, doing nothing, if it can't be");
    for (int from : NO_NUMBERS) denied(Cases::busy, d -> d.away(0, from, 5));
    for (int to : new int[] {-1, 100001, LOWEST, HIGHEST}) denied(Cases::busy, d -> d.away(0, 0, to));
    denied(Cases::busy, d -> d.away(0, 2, 1));
    denied(Cases::busy, d -> d.away(0, 100000, 0));
    denied(Cases::busy, d -> d.away(0, 100001, 100001));
    denied(Cases::busy, d -> d.away(0, -1, -1));
    denied(Cases::busy, d -> d.away(0, -1, 100001));
    for (int person : new int[] {-1, 5, 14, 32, LOWEST, HIGHEST}) denied(Cases::busy, d -> d.away(person, 0, 5));
  }

  private static void thirtySpans() {
    sentence("Promise 4: false, doing nothing, if there are 30");
    Consumer<Desk> full = x -> {
      busy(x);
      for (int i = 1; i < 30; i++) yes(x.away(1 + i % 4, 50 + i, 50 + i));
    };
    Desk x = new Desk();
    full.accept(x);
    is(x.about(2), 30);
    is(x.acts(2, 0, 79), 0);
    no(x.away(0, 0, 0));
    no(x.away(0, 1, 0));
    is(x.acts(0, 0, 0), 1);
    is(x.about(2), 30);
    denied(full, d -> d.away(0, 0, 6));
    denied(full, d -> d.away(4, 1, 1));
    Desk y = room("", 0);
    for (int i = 0; i < 29; i++) yes(y.away(0, i, i));
    no(y.away(0, 7, 6));
    is(y.about(2), 29);
    yes(y.away(0, 29, 29));
    is(y.acts(0, 0, 29), 0);
    no(y.away(0, 30, 30));
    is(y.acts(0, 0, 30), 1);
    is(y.about(2), 30);
  }

  private static void daysOfADeputy() {
    sentence("Terms 1: a DEPUTY is told of one PERSON: another one, on days from .. to");
    Desk x = room("", 0, 0, 0, 0);
    yes(x.away(0, 0, 100000));
    is(x.deputy(0, 1, 3, 5, 70), 0);
    int[] due = {0, 2, 2, 2, 0};
    for (int day = 2; day <= 6; day++) is(x.acts(0, 70, day), due[day - 2]);
    is(x.deputy(0, 2, 0, 0, 70), 1);
    is(x.acts(0, 70, 0), 4);
    is(x.acts(0, 70, 1), 0);
    is(x.deputy(0, 3, 100000, 100000, 70), 2);
    is(x.acts(0, 70, 99999), 0);
    is(x.acts(0, 70, 100000), 8);
    is(x.acts(0, 70, 100001), 1);
    is(x.deputy(0, 3, 0, 100000, 70), 3);
    is(x.acts(0, 70, 0), 4 + 8);
    is(x.acts(0, 70, 50000), 8);
    is(x.acts(1, 70, 4), 2);
  }

  private static void sumsOfADeputy() {
    sentence("Terms 1: a DEPUTY is told for sums up to an amount");
    Desk x = room("", 0, 0, 0, 0);
    yes(x.away(0, 0, 9));
    is(x.deputy(0, 1, 0, 9, 70), 0);
    is(x.acts(0, 69, 0), 2);
    is(x.acts(0, 70, 0), 2);
    is(x.acts(0, 71, 0), 0);
    is(x.deputy(0, 2, 0, 9, 0), 1);
    is(x.acts(0, 0, 0), 2 + 4);
    is(x.acts(0, 1, 0), 2);
    is(x.deputy(0, 3, 0, 9, 1000000), 2);
    is(x.acts(0, 1000000, 0), 8);
    is(x.acts(0, 70, 0), 2 + 8);
    is(x.deputy(0, 1, 0, 9, 100), 3);
    is(x.acts(0, 100, 0), 2 + 8);
    is(x.acts(0, 101, 0), 8);
  }

  private static void deputiesThatCannotBe() {
    sentence("Promise 5: NONE, doing nothing, if it can't be (upto 0 .. 1000000)");
    for (int upto : new int[] {-1, 1000001, LOWEST, HIGHEST}) refused(Cases::busy, d -> d.deputy(2, 3, 0, 5, upto));
    for (int person : new int[] {-1, 5, 14, 34, LOWEST, HIGHEST}) {
      refused(Cases::busy, d -> d.deputy(person, 3, 0, 5, 9));
      refused(Cases::busy, d -> d.deputy(2, person, 0, 5, 9));
    }
    sentence("Terms 1: a DEPUTY is told of one PERSON: another one");
    for (int person = 0; person < 5; person++) {
      int same = person;
      refused(Cases::busy, d -> d.deputy(same, same, 0, 5, 9));
    }
    sentence("Promise 5: a DEPUTY's days are such as those of away");
    for (int from : NO_NUMBERS) refused(Cases::busy, d -> d.deputy(2, 3, from, 5, 9));
    for (int to : new int[] {-1, 100001, LOWEST, HIGHEST}) refused(Cases::busy, d -> d.deputy(2, 3, 0, to, 9));
    refused(Cases::busy, d -> d.deputy(2, 3, 2, 1, 9));
    refused(Cases::busy, d -> d.deputy(2, 3, 100001, 100001, 9));
    refused(Cases::busy, d -> d.deputy(2, 3, -1, -1, 9));
  }

  private static void thirtyDeputies() {
    sentence("Promise 5: NONE, doing nothing, if there are 30");
    Consumer<Desk> full = x -> {
      busy(x);
      for (int i = 2; i < 30; i++) is(x.deputy(i % 2, 2 + i % 3, 50, 60, 9), i);
    };
    refused(full, d -> d.deputy(2, 3, 0, 5, 9));
    refused(full, d -> d.deputy(2, 2, 0, 5, 9));
    Desk x = room("", 0, 0, 0);
    yes(x.away(0, 0, 9));
    for (int i = 0; i < 29; i++) is(x.deputy(1, 2, 0, 0, 0), i);
    none(x.deputy(1, 1, 0, 0, 0));
    is(x.about(3), 29);
    is(x.deputy(0, 2, 0, 9, 5), 29);
    is(x.acts(0, 5, 0), 4);
    none(x.deputy(0, 1, 0, 9, 5));
    is(x.acts(0, 5, 0), 4);
    is(x.about(3), 30);
    yes(x.end(29));
    is(x.acts(0, 5, 0), 0);
    none(x.deputy(0, 1, 0, 9, 5));
    is(x.about(3), 30);
  }

  private static void endOfADeputy() {
    sentence("Promise 6: a DEPUTY is none any more, for all days: true");
    Desk x = room("", 0, 0, 0);
    yes(x.away(0, 0, 100000));
    is(x.deputy(0, 1, 0, 100000, 5), 0);
    is(x.deputy(0, 2, 0, 100000, 5), 1);
    is(x.deputy(0, 1, 10, 20, 5), 2);
    is(x.later(15), 15);
    yes(x.end(0));
    is(x.acts(0, 5, 0), 4);
    is(x.acts(0, 5, 9), 4);
    is(x.acts(0, 5, 10), 2 + 4);
    is(x.acts(0, 5, 21), 4);
    is(x.acts(0, 5, 100000), 4);
    yes(x.end(2));
    is(x.acts(0, 5, 15), 4);
    is(x.about(3), 3);
    is(x.deputy(0, 1, 0, 100000, 5), 3);
    is(x.acts(0, 5, 15), 2 + 4);
    sentence("Promise 6: false if it is so already, or there is none such");
    no(x.end(0));
    no(x.end(2));
    no(x.end(4));
    is(x.acts(0, 5, 15), 2 + 4);
    for (int deputy : new int[] {1, 2, 30, -1, LOWEST, HIGHEST}) denied(Cases::busy, d -> d.end(deputy));
    Desk y = room("", 0, 0);
    for (int i = 0; i < 30; i++) is(y.deputy(0, 1, 0, 0, 0), i);
    no(y.end(30));
    yes(y.end(29));
    no(y.end(29));
    yes(y.end(0));
  }

  private static void actsAlone() {
    sentence("Terms 1: if p is not AWAY then, p alone does");
    Desk x = room("", 0, 0, 0);
    is(x.deputy(0, 1, 0, 9, 1000000), 0);
    is(x.acts(0, 1000000, 0), 1);
    yes(x.away(0, 3, 4));
    is(x.acts(0, 5, 2), 1);
    is(x.acts(0, 5, 3), 2);
    is(x.acts(0, 5, 4), 2);
    is(x.acts(0, 5, 5), 1);
    sentence("Terms 1: if p is, each DEPUTY q of p on that day, for that sum, who is not AWAY");
    is(x.deputy(0, 2, 4, 4, 5), 1);
    is(x.acts(0, 5, 3), 2);
    is(x.acts(0, 5, 4), 2 + 4);
    is(x.acts(0, 6, 4), 2);
    yes(x.away(1, 4, 4));
    is(x.acts(0, 5, 4), 4);
    is(x.acts(0, 6, 4), 0);
    is(x.acts(0, 6, 3), 2);
  }

  private static void actsFurther() {
    sentence("Terms 1: and of one who is, its DEPUTIES likewise, and on");
    Desk x = room("", 0, 0, 0, 0);
    yes(x.away(0, 0, 9));
    is(x.deputy(0, 1, 0, 9, 100), 0);
    is(x.deputy(1, 2, 0, 8, 50), 1);
    is(x.acts(0, 50, 0), 2);
    yes(x.away(1, 0, 9));
    is(x.acts(0, 50, 0), 4);
    is(x.acts(0, 51, 0), 0);
    is(x.acts(0, 50, 8), 4);
    is(x.acts(0, 50, 9), 0);
    yes(x.away(2, 5, 5));
    is(x.acts(0, 50, 5), 0);
    is(x.deputy(2, 3, 5, 5, 10), 2);
    is(x.acts(0, 10, 5), 8);
    is(x.acts(0, 11, 5), 0);
    is(x.acts(0, 10, 4), 4);
    Desk y = new Desk();
    for (int i = 0; i < 14; i++) y.person(0);
    for (int i = 0; i < 13; i++) {
      yes(y.away(i, 0, 0));
      is(y.deputy(i, i + 1, 0, 0, 1000000), i);
    }
    is(y.acts(0, 1000000, 0), 1 << 13);
    yes(y.end(12));
    is(y.acts(0, 1000000, 0), 0);
    is(y.deputy(12, 13, 0, 0, 4), 13);
    is(y.acts(0, 4, 0), 1 << 13);
    is(y.acts(0, 5, 0), 0);
  }

  /** Deputies told from the last to the first, so that no order of telling helps. */
  private static void actsBackwards() {
    sentence("Terms 1: its DEPUTIES likewise, and on, in whatever order they are told");
    Desk x = new Desk();
    for (int i = 0; i < 14; i++) x.person(0);
    for (int i = 12; i >= 0; i--) {
      yes(x.away(i + 1, 0, 0));
      x.deputy(i + 1, i, 0, 0, 9);
    }
    is(x.acts(13, 9, 0), 1);
    is(x.acts(1, 9, 0), 1);
    yes(x.end(12));
    is(x.acts(13, 9, 0), 0);
  }

  private static void actsInARing() {
    sentence("Terms 1: never through one PERSON twice");
    Desk x = room("", 0, 0, 0, 0);
    for (int i = 0; i < 2; i++) yes(x.away(i, 0, 9));
    is(x.deputy(0, 1, 0, 9, 50), 0);
    is(x.deputy(1, 0, 0, 9, 50), 1);
    is(x.acts(0, 50, 0), 0);
    is(x.acts(1, 50, 0), 0);
    yes(x.away(2, 0, 9));
    is(x.deputy(1, 2, 0, 9, 50), 2);
    is(x.deputy(2, 0, 0, 9, 50), 3);
    is(x.acts(0, 50, 0), 0);
    is(x.acts(2, 50, 0), 0);
    is(x.deputy(2, 3, 0, 9, 50), 4);
    for (int i = 0; i < 3; i++) is(x.acts(i, 50, 0), 8);
    is(x.acts(3, 50, 0), 8);
    Desk y = new Desk();
    for (int i = 0; i < 14; i++) {
      y.person(0);
      yes(y.away(i, 0, 0));
    }
    for (int i = 0; i < 14; i++) is(y.deputy(i, (i + 1) % 14, 0, 0, 7), i);
    for (int i = 0; i < 14; i++) is(y.acts(i, 7, 0), 0);
    is(y.acts(6, 7, 1), 1 << 6);
  }

  private static void actsAsked() {
    sentence("Promise 7: a sum (0 .. 1000000) on a day (from 0 on); NONE if one can't be");
    Desk x = room("", 0, 0);
    is(x.acts(1, 0, 0), 2);
    is(x.acts(1, 1000000, 0), 2);
    is(x.acts(1, 0, 100000), 2);
    is(x.acts(1, 0, 100001), 2);
    is(x.acts(1, 0, HIGHEST), 2);
    for (int sum : new int[] {-1, 1000001, LOWEST, HIGHEST}) none(x.acts(1, sum, 0));
    for (int day : new int[] {-1, LOWEST}) none(x.acts(1, 0, day));
    for (int person : new int[] {-1, 2, 14, 32, 33, LOWEST, HIGHEST}) none(x.acts(person, 0, 0));
    doesNothing(Cases::busy, d -> d.acts(2, 50, 1));
  }

  private static void later() {
    sentence("Promise 8: so many days later (0 .. 1000): the DAY; NONE, doing nothing, for another number");
    Desk x = new Desk();
    is(x.later(0), 0);
    is(x.later(1), 1);
    is(x.later(1000), 1001);
    none(x.later(1001));
    is(x.about(0), 1001);
    is(x.later(999), 2000);
    for (int days : new int[] {-1, 1001, LOWEST, HIGHEST}) refused(Cases::busy, d -> d.later(days));
    sentence("Promise 8: NONE, doing nothing, if it would be above 100,000");
    Consumer<Desk> late = d -> {
      busy(d);
      for (int i = 0; i < 99; i++) d.later(1000);
      is(d.later(998), 99999);
    };
    for (int days : new int[] {2, 1000, 1001, -1, HIGHEST}) refused(late, d -> d.later(days));
    Desk y = new Desk();
    for (int i = 1; i <= 99; i++) is(y.later(1000), i * 1000);
    is(y.later(999), 99999);
    none(y.later(2));
    is(y.later(1), 100000);
    is(y.later(0), 100000);
    none(y.later(1));
    none(y.later(1000));
    is(y.about(0), 100000);
    Desk z = new Desk();
    for (int i = 1; i <= 100; i++) is(z.later(1000), i * 1000);
    none(z.later(1));
    is(z.about(0), 100000);
  }

  private static void lastDay() {
    sentence("Promise 8: on the DAY 100,000 all goes on");
    Desk x = room("rule pay : 1 law; limit law day 5 month 9;", 0, LAW, LAW);
    for (int i = 0; i < 100; i++) x.later(1000);
    is(x.paper(PAY, 5, 0, 0, false), 0);
    is(x.of(0, 5), 100000);
    yes(x.sign(0, 0, 1, 1));
    is(x.signed(1, 4, 100000, false), 5);
    is(x.signed(1, 4, 99999, false), 0);
    is(x.signed(1, 4, 99990, true), 5);
    is(x.signed(1, 4, 99989, true), 0);
    is(x.signed(1, 4, 100019, true), 5);
    is(x.signed(1, 4, 100020, true), 0);
    is(x.paper(PAY, 1, 0, 0, false), 1);
    is(x.of(1, 1), 6);
    is(x.holders(1), 4);
    yes(x.away(2, 100000, 100000));
    is(x.holders(1), 0);
  }

  private static void aboutEach() {
    sentence("Promise 25: 0 the DAY, 1 PEOPLE, 2 spans, 3 DEPUTIES (ended ones, too), 4 rules, 5 limits, 6 PAPERS, 7 bytes");
    Desk x = room("rule pay : 1 law; rule pay : 2 law; limit law day 5; limit head day 5; limit clerk day 5;", 0, 0, 0, 0);
    x.later(9);
    for (int i = 0; i < 5; i++) yes(x.away(0, 0, 0));
    for (int i = 0; i < 6; i++) is(x.deputy(0, 1, 0, 0, 0), i);
    for (int i = 0; i < 7; i++) is(x.paper(BILL, 0, 0, 0, false), i);
    yes(x.withdraw(0));
    yes(x.end(0));
    is(x.feed(0, 0, 0, 0, 0), 20);
    is(x.cut(8), 8);
    int[] all = {9, 4, 5, 6, 2, 3, 7, 8};
    for (int what = 0; what < 8; what++) is(x.about(what), all[what]);
    sentence("Promise 25: NONE for another what");
    for (int what : new int[] {-1, 8, LOWEST, HIGHEST}) none(x.about(what));
  }

  public static void main(String[] args) {
    newObject();
    newObjectsAreApart();
    lastCall();
    constant();
    rolesOfAPerson();
    fourteenPeople();
    lastPerson();
    roleBits();
    rolesToldAnew();
    daysAway();
    daysAwayThatCannotBe();
    thirtySpans();
    daysOfADeputy();
    sumsOfADeputy();
    deputiesThatCannotBe();
    thirtyDeputies();
    endOfADeputy();
    actsAlone();
    actsFurther();
    actsBackwards();
    actsInARing();
    actsAsked();
    later();
    lastDay();
    aboutEach();
    finish();
  }
}
