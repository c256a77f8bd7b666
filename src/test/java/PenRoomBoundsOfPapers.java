import java.util.function.Consumer;

/** The bounds of Terms 3 and of the promises 13 to 20: papers, what is joined, signing, limits, back and withdraw. */
public final class PenRoomBoundsOfPapers extends Cases {
  /** The busy desk with as many papers as there may be: 5 are there, 35 more come. */
  private static void full(Desk x) {
    busy(x);
    for (int i = 5; i < 40; i++) is(x.paper(PAY, i, i % 5, 2 + i % 6, i % 2 == 0), i);
  }

  private static void span() {
    sentence("Promise 13: SPAN (0 .. 30): true; false, doing nothing");
    Desk x = new Desk();
    yes(x.span(0));
    yes(x.span(30));
    no(x.span(31));
    no(x.span(-1));
    for (int days : new int[] {-1, 31, LOWEST, HIGHEST}) denied(Cases::busy, d -> d.span(days));
    sentence("Terms 3: SPAN (0 at first)");
    Desk y = room("rule pay : 1 law;", 0);
    is(y.paper(PAY, 100, 0, 0, false), 0);
    is(y.paper(PAY, 10, 0, 0, false), 1);
    is(y.of(1, 1), 110);
    y.later(1);
    is(y.paper(PAY, 1, 0, 0, false), 2);
    is(y.of(2, 1), 1);
    sentence("Terms 3: JOINED: at most SPAN days ahead of its day");
    for (int days : new int[] {0, 1, 2, 29, 30}) {
      Desk z = room("rule pay : 1 law;", 0);
      yes(z.span(days));
      is(z.paper(PAY, 100, 0, 0, false), 0);
      z.later(days);
      is(z.paper(PAY, 10, 0, 0, false), 1);
      is(z.of(1, 1), 110);
      is(z.greatest(PAY, 0, false, 0, 1), -2);
      z.later(1);
      is(z.paper(PAY, 1, 0, 0, false), 2);
      is(z.of(2, 1), days == 0 ? 1 : 11);
    }
    sentence("Terms 3: the SPAN of the day on which it is BEGUN is the one that counts");
    Desk z = room("rule pay : 1 law;", 0);
    yes(z.span(1));
    is(z.paper(PAY, 100, 0, 0, false), 0);
    z.later(1);
    is(z.paper(PAY, 10, 0, 0, false), 1);
    yes(z.span(0));
    is(z.of(1, 1), 110);
    is(z.paper(PAY, 1, 0, 0, false), 2);
    is(z.of(2, 1), 11);
    yes(z.back(1));
    is(z.of(1, 1), 11);
    yes(z.span(30));
    is(z.of(1, 1), 11);
    yes(z.back(1));
    is(z.of(1, 1), 111);
  }

  private static void papersThatCannotBe() {
    sentence("Promise 14: a PAPER: its number; NONE, doing nothing, if it can't be");
    Desk x = room("", 0, 0);
    is(x.paper(0, 0, 0, 0, false), 0);
    is(x.paper(3, 1000000, 1, 7, true), 1);
    is(x.of(1, 1), 1000000);
    for (int kind : new int[] {-1, 4, LOWEST, HIGHEST}) refused(Cases::busy, d -> d.paper(kind, 1, 0, 0, true));
    for (int sum : new int[] {-1, 1000001, LOWEST, HIGHEST}) refused(Cases::busy, d -> d.paper(PAY, sum, 0, 0, true));
    for (int maker : new int[] {-1, 5, 14, 32, LOWEST, HIGHEST}) refused(Cases::busy, d -> d.paper(PAY, 1, maker, 0, true));
    for (int place : new int[] {-1, 8, LOWEST, HIGHEST}) refused(Cases::busy, d -> d.paper(PAY, 1, 0, place, true));
  }

  private static void fortyPapers() {
    sentence("Promise 14: NONE, doing nothing, if there are 40");
    Desk x = room("rule pay : 1 law;", 0, LAW);
    for (int i = 0; i < 39; i++) is(x.paper(PAY, 1000000, 0, 0, false), i);
    none(x.paper(PAY, 1000001, 0, 0, false));
    is(x.about(6), 39);
    is(x.paper(PAY, 1000000, 0, 0, false), 39);
    is(x.of(39, 1), 40000000);
    is(x.of(39, 0), 0);
    is(x.about(6), 40);
    none(x.paper(PAY, 1, 0, 0, false));
    none(x.of(40, 0));
    yes(x.withdraw(0));
    none(x.paper(PAY, 1, 0, 0, false));
    is(x.about(6), 40);
    yes(x.sign(39, 0, 1, 1));
    is(x.of(39, 0), 1);
    refused(PenRoomBoundsOfPapers::full, d -> d.paper(PAY, 1, 0, 0, true));
    refused(PenRoomBoundsOfPapers::full, d -> d.paper(TRIP, 1, 0, 0, true));
    refused(PenRoomBoundsOfPapers::full, d -> d.paper(4, 1, 0, 0, true));
  }

  private static void joinedWithWhom() {
    sentence("Terms 3: JOINED is its sum and those of the PAPERS of that MAKER, KIND and PLACE");
    Desk x = room("rule pay : 1 law;", 0, LAW);
    is(x.paper(PAY, 60, 0, 0, false), 0);
    is(x.paper(PAY, 60, 1, 0, false), 1);
    is(x.paper(ORDER, 60, 0, 0, false), 2);
    is(x.paper(PAY, 60, 0, 1, false), 3);
    is(x.paper(PAY, 5, 0, 0, true), 4);
    int[] joined = {60, 60, 60, 60, 65};
    for (int i = 0; i < 5; i++) is(x.of(i, 1), joined[i]);
    sentence("Terms 3: JOINED: those BEGUN earlier (with a lower number)");
    is(x.of(0, 1), 60);
    is(x.paper(PAY, 0, 0, 0, true), 5);
    is(x.of(5, 1), 65);
    sentence("Terms 3: JOINED: those DONE and WITHOUT a RULE, too");
    yes(x.sign(0, 0, 1, 1));
    is(x.of(0, 0), 1);
    is(x.paper(PAY, 1, 0, 0, false), 6);
    is(x.of(6, 1), 66);
    is(x.paper(ORDER, 1, 0, 0, false), 7);
    is(x.of(7, 0), 2);
    is(x.of(7, 1), 61);
    sentence("Terms 3: JOINED: not WITHDRAWN");
    yes(x.withdraw(4));
    is(x.of(6, 1), 66);
    is(x.of(4, 1), 65);
    is(x.paper(PAY, 1, 0, 0, false), 8);
    is(x.of(8, 1), 62);
    yes(x.withdraw(2));
    is(x.paper(ORDER, 1, 0, 0, false), 9);
    is(x.of(9, 1), 2);
  }

  private static void joinedAnew() {
    sentence("Terms 3: JOINED, for one BEGUN anew: all others");
    Desk x = room("rule pay when sum > 100 : 2 law; rule pay : 1 law;", 0, LAW);
    is(x.paper(PAY, 10, 0, 0, false), 0);
    is(x.paper(PAY, 20, 0, 0, false), 1);
    is(x.paper(PAY, 71, 0, 0, false), 2);
    is(x.of(0, 1), 10);
    is(x.of(0, 2), 1);
    yes(x.back(0));
    is(x.of(0, 1), 101);
    is(x.of(0, 2), 2);
    yes(x.back(1));
    is(x.of(1, 1), 101);
    yes(x.back(2));
    is(x.of(2, 1), 101);
    yes(x.withdraw(2));
    yes(x.back(0));
    is(x.of(0, 1), 30);
    is(x.of(0, 2), 1);
    sentence("Terms 3: JOINED, for one BEGUN anew: at most SPAN days ahead of its new day");
    x.later(1);
    yes(x.back(1));
    is(x.of(1, 1), 20);
    is(x.of(1, 5), 1);
    is(x.paper(PAY, 5, 0, 0, false), 3);
    is(x.of(3, 1), 25);
    yes(x.back(0));
    is(x.of(0, 1), 35);
    sentence("Terms 3: a PAPER BEGUN anew counts for others by its new day");
    Desk y = room("rule pay : 1 law;", 0);
    is(y.paper(PAY, 10, 0, 0, false), 0);
    y.later(5);
    is(y.paper(PAY, 1, 0, 0, false), 1);
    is(y.of(1, 1), 1);
    yes(y.back(0));
    is(y.paper(PAY, 1, 0, 0, false), 2);
    is(y.of(2, 1), 12);
  }

  private static void ruleStays() {
    sentence("Terms 3: its RULE is told as it is BEGUN, by the RULES of then, and stays");
    Desk x = room("rule pay : 2 law then 1 head; limit law day 100;", 0, LAW, LAW, HEAD);
    is(x.paper(PAY, 60, 0, 0, false), 0);
    is(load(x, "rule pay : 1 clerk; rule pay : 1 clerk;"), 2);
    is(x.of(0, 2), 3);
    is(x.slot(0, 0, 0), 4);
    is(x.slot(0, 2, 0), 1);
    is(x.slot(0, 2, 1), 1);
    is(x.rules(), 0);
    is(x.of(0, 0), 0);
    is(x.of(0, 2), 3);
    is(x.paper(PAY, 60, 0, 1, false), 1);
    is(x.of(1, 0), 2);
    is(load(x, "rule pay : 1 law;"), 1);
    is(x.of(1, 0), 2);
    is(x.of(1, 2), 0);
    yes(x.sign(0, 0, 1, 1));
    yes(x.back(0));
    is(x.of(0, 2), 1);
  }

  private static void states() {
    sentence("Promise 15: 0 how it stands, 1 JOINED, 2 SLOTS (0 without a RULE), 3 signed, 4 the first step open, 5 its day");
    Desk x = room("rule pay : 1 law and 1 head then 1 chief then 1 owner;", 0, LAW, HEAD, CHIEF, OWNER);
    x.later(7);
    is(x.paper(PAY, 9, 0, 0, false), 0);
    int[][] stands = {{0, 9, 4, 0, 0, 7}, {0, 9, 4, 1, 0, 7}, {0, 9, 4, 2, 1, 7}, {0, 9, 4, 3, 2, 7}, {1, 9, 4, 4, 3, 7}};
    int[][] signs = {{1, 2}, {0, 1}, {2, 3}, {3, 4}};
    for (int i = 0; i < 5; i++) {
      for (int what = 0; what < 6; what++) is(x.of(0, what), stands[i][what]);
      if (i < 4) yes(x.sign(0, signs[i][0], signs[i][1], signs[i][1]));
    }
    is(x.paper(ORDER, 3, 0, 0, false), 1);
    int[] without = {2, 3, 0, 0, 0, 7};
    for (int what = 0; what < 6; what++) is(x.of(1, what), without[what]);
    is(x.paper(PAY, 5, 0, 3, false), 2);
    yes(x.sign(2, 0, 1, 1));
    x.later(1);
    yes(x.withdraw(2));
    int[] withdrawn = {3, 5, 4, 1, 0, 7};
    for (int what = 0; what < 6; what++) is(x.of(2, what), withdrawn[what]);
    sentence("Promise 15: NONE if there is none such");
    for (int what : new int[] {-1, 6, LOWEST, HIGHEST}) none(x.of(0, what));
    for (int paper : new int[] {-1, 3, 40, LOWEST, HIGHEST}) none(x.of(paper, 0));
    Desk y = new Desk();
    full(y);
    is(y.of(39, 0), 0);
    none(y.of(40, 0));
  }

  private static void slots() {
    sentence("Promise 16: 0 its ROLE, 1 its step, 2 its HAND (NONE: not signed), 3 its NAME (NONE)");
    Desk x = room("rule pay : 2 law and 1 head then 1 owner;", 0, LAW, LAW, HEAD);
    is(x.paper(PAY, 9, 0, 0, false), 0);
    int[][] fresh = {{4, 0, -1, -1}, {4, 0, -1, -1}, {1, 0, -1, -1}, {7, 1, -1, -1}};
    for (int s = 0; s < 4; s++) for (int what = 0; what < 4; what++) is(x.slot(0, s, what), fresh[s][what]);
    yes(x.away(2, 0, 0));
    is(x.deputy(2, 3, 0, 0, 9), 0);
    yes(x.sign(0, 1, 3, 2));
    is(x.slot(0, 1, 2), 3);
    is(x.slot(0, 1, 3), 2);
    none(x.slot(0, 0, 2));
    none(x.slot(0, 2, 3));
    yes(x.withdraw(0));
    is(x.slot(0, 1, 2), 3);
    sentence("Promise 16: NONE if there is none such");
    for (int what : new int[] {-1, 4, LOWEST, HIGHEST}) none(x.slot(0, 1, what));
    for (int slot : new int[] {-1, 4, 7, 8, LOWEST, HIGHEST}) none(x.slot(0, slot, 0));
    for (int paper : new int[] {-1, 1, 40, LOWEST, HIGHEST}) none(x.slot(paper, 0, 0));
    is(x.paper(BILL, 9, 0, 0, false), 1);
    for (int what = 0; what < 4; what++) none(x.slot(1, 0, what));
    sentence("Terms 3: SENT BACK to a RULE of fewer SLOTS the others are none any more");
    Desk y = room("rule pay : 3 law;", 0, LAW);
    is(y.paper(PAY, 1, 0, 0, false), 0);
    yes(y.sign(0, 2, 1, 1));
    is(load(y, "rule pay : 1 head;"), 1);
    yes(y.back(0));
    is(y.slot(0, 0, 0), 1);
    none(y.slot(0, 0, 2));
    for (int what = 0; what < 4; what++) none(y.slot(0, 2, what));
    is(load(y, "rule pay : 3 head;"), 1);
    yes(y.back(0));
    none(y.slot(0, 2, 2));
  }

  private static void lastSlot() {
    sentence("Terms 2: 8 SLOTS: the last of them is signed as others are");
    Desk x = new Desk();
    load(x, "rule pay : 3 law and 3 law then 1 law then 1 law;");
    for (int i = 0; i < 9; i++) x.person(LAW);
    is(x.paper(PAY, 9, 0, 0, false), 0);
    no(x.sign(0, 7, 8, 8));
    no(x.sign(0, 8, 8, 8));
    is(x.way(0), 8);
    is(x.wayOf(7, 0), 8);
    for (int s = 0; s < 8; s++) yes(x.sign(0, s, s + 1, s + 1));
    is(x.of(0, 0), 1);
    is(x.of(0, 3), 8);
    is(x.of(0, 4), 3);
    is(x.slot(0, 7, 1), 2);
    is(x.slot(0, 7, 2), 8);
    is(x.slot(0, 7, 3), 8);
  }

  private static void signsThatCannotBe() {
    sentence("Promise 17: a SLOT is signed: true; false, doing nothing, if it can't be");
    yes(signsOnBusy(0, 1, 3, 3));
    for (int paper : new int[] {-1, 5, 40, LOWEST, HIGHEST}) denied(Cases::busy, d -> d.sign(paper, 1, 3, 3));
    for (int slot : new int[] {-1, 2, 7, 8, LOWEST, HIGHEST}) denied(Cases::busy, d -> d.sign(0, slot, 3, 3));
    for (int person : new int[] {-1, 5, 14, 35, LOWEST, HIGHEST}) {
      denied(Cases::busy, d -> d.sign(0, 1, person, 3));
      denied(Cases::busy, d -> d.sign(0, 1, 3, person));
      denied(Cases::busy, d -> d.sign(0, 1, person, person));
    }
    sentence("Terms 3: if the PAPER is UNDER WAY");
    denied(Cases::busy, d -> d.sign(2, 0, 2, 2));
    denied(Cases::busy, d -> d.sign(3, 0, 4, 4));
    denied(Cases::busy, d -> d.sign(4, 0, 4, 4));
    sentence("Terms 3: if the SLOT is not signed");
    denied(Cases::busy, d -> d.sign(0, 0, 4, 2));
    denied(Cases::busy, d -> d.sign(0, 0, 1, 1));
    sentence("Terms 3: if it is of the first step that is not wholly signed");
    denied(Cases::busy, d -> d.sign(1, 2, 3, 3));
    sentence("Terms 3: if NAME has the ROLE");
    denied(Cases::busy, d -> d.sign(0, 1, 4, 2));
    denied(Cases::busy, d -> d.sign(1, 0, 3, 3));
    sentence("Terms 3: if HAND ACTS FOR NAME today");
    denied(Cases::busy, d -> d.sign(0, 1, 4, 3));
    denied(Cases::busy, d -> d.sign(0, 1, 3, 4));
    sentence("Terms 3: neither is its MAKER");
    denied(Cases::busy, d -> d.sign(0, 1, 0, 0));
    sentence("Terms 3: nor HAND or NAME of another SLOT of it");
    denied(Cases::busy, d -> d.sign(1, 0, 4, 4));
    denied(Cases::busy, d -> d.sign(1, 0, 2, 2));
    denied(Cases::busy, d -> d.sign(1, 0, 4, 2));
  }

  private static boolean signsOnBusy(int paper, int slot, int hand, int name) {
    Desk x = new Desk();
    busy(x);
    return x.sign(paper, slot, hand, name);
  }

  private static void stepByStep() {
    sentence("Terms 3: the first step that is not wholly signed, on both sides of its end");
    Desk x = room("rule pay : 1 law and 1 law then 1 law then 1 law;", 0, LAW, LAW, LAW, LAW);
    is(x.paper(PAY, 1, 0, 0, false), 0);
    no(x.sign(0, 2, 3, 3));
    no(x.sign(0, 3, 3, 3));
    yes(x.sign(0, 1, 1, 1));
    no(x.sign(0, 2, 3, 3));
    yes(x.sign(0, 0, 2, 2));
    no(x.sign(0, 3, 3, 3));
    yes(x.sign(0, 2, 3, 3));
    is(x.of(0, 0), 0);
    yes(x.sign(0, 3, 4, 4));
    is(x.of(0, 0), 1);
    no(x.sign(0, 3, 4, 4));
  }

  private static void handsAndNames() {
    sentence("Terms 3: HAND ACTS FOR NAME with the PAPER's sum, which is not the JOINED one");
    Desk x = room("rule pay : 1 law;", 0, LAW, 0, 0);
    yes(x.away(1, 0, 0));
    is(x.deputy(1, 2, 0, 0, 50), 0);
    is(x.paper(PAY, 51, 0, 0, false), 0);
    no(x.sign(0, 0, 2, 1));
    is(x.paper(PAY, 50, 0, 0, false), 1);
    is(x.of(1, 1), 101);
    no(x.sign(1, 0, 1, 1));
    no(x.sign(1, 0, 3, 1));
    no(x.sign(1, 0, 2, 2));
    yes(x.sign(1, 0, 2, 1));
    sentence("Terms 3: HAND ACTS FOR NAME today");
    x.later(1);
    no(x.sign(0, 0, 2, 1));
    yes(x.sign(0, 0, 1, 1));
    sentence("Terms 3: neither HAND nor NAME is its MAKER");
    Desk y = room("rule pay : 1 law;", LAW, LAW, 0);
    is(y.paper(PAY, 1, 0, 0, false), 0);
    yes(y.away(0, 0, 0));
    is(y.deputy(0, 2, 0, 0, 50), 0);
    no(y.sign(0, 0, 2, 0));
    yes(y.away(1, 0, 0));
    is(y.deputy(1, 0, 0, 0, 50), 1);
    no(y.sign(0, 0, 0, 1));
    is(y.deputy(1, 2, 0, 0, 50), 2);
    yes(y.sign(0, 0, 2, 1));
  }

  /** Person 2 signs for 1; then neither may be hand or name of the other slot, but on another paper they may. */
  private static void onceOnAPaper() {
    sentence("Terms 3: nor HAND or NAME of another SLOT of it, each of the four ways");
    Desk x = room("rule pay : 2 law;", 0, LAW, LAW, LAW, LAW, 0);
    yes(x.away(1, 0, 0));
    is(x.deputy(1, 2, 0, 0, 50), 0);
    is(x.paper(PAY, 1, 0, 0, false), 0);
    yes(x.sign(0, 0, 2, 1));
    no(x.sign(0, 1, 2, 2));
    yes(x.away(3, 0, 0));
    is(x.deputy(3, 2, 0, 0, 50), 1);
    no(x.sign(0, 1, 2, 3));
    is(x.deputy(1, 5, 0, 0, 50), 2);
    no(x.sign(0, 1, 5, 1));
    x.later(1);
    no(x.sign(0, 1, 1, 1));
    yes(x.away(4, 1, 1));
    is(x.deputy(4, 1, 1, 1, 50), 3);
    no(x.sign(0, 1, 1, 4));
    yes(x.away(2, 1, 1));
    is(x.deputy(2, 5, 1, 1, 50), 4);
    no(x.sign(0, 1, 5, 2));
    is(x.of(0, 3), 1);
    sentence("Terms 3: of another PAPER they may be");
    is(x.paper(PAY, 1, 0, 1, false), 1);
    yes(x.sign(1, 0, 1, 1));
    yes(x.sign(1, 1, 5, 2));
    yes(x.sign(0, 1, 3, 3));
  }

  private static void dayLimit() {
    sentence("Terms 3: what was signed in that NAME in that ROLE today, with this sum, is at most the day limit");
    Desk x = room("rule pay : 1 law; limit law day 100;", 0, LAW, LAW);
    is(x.paper(PAY, 100, 0, 0, false), 0);
    is(x.paper(PAY, 101, 0, 1, false), 1);
    no(x.sign(1, 0, 1, 1));
    yes(x.sign(0, 0, 1, 1));
    is(x.paper(PAY, 1, 0, 2, false), 2);
    no(x.sign(2, 0, 1, 1));
    is(x.paper(PAY, 0, 0, 3, false), 3);
    yes(x.sign(3, 0, 1, 1));
    yes(x.sign(2, 0, 2, 2));
    x.later(1);
    is(x.paper(PAY, 60, 0, 4, false), 4);
    is(x.paper(PAY, 41, 0, 5, false), 5);
    is(x.paper(PAY, 40, 0, 6, false), 6);
    yes(x.sign(4, 0, 1, 1));
    no(x.sign(5, 0, 1, 1));
    yes(x.sign(6, 0, 1, 1));
    no(x.sign(1, 0, 1, 1));
    sentence("Terms 3: the sum, not the JOINED one, is held against the limit");
    x.later(1);
    is(x.paper(PAY, 90, 0, 7, false), 7);
    is(x.paper(PAY, 90, 0, 7, false), 8);
    is(x.of(8, 1), 180);
    yes(x.sign(8, 0, 1, 1));
  }

  private static void monthLimit() {
    sentence("Terms 1: a MONTH is 30 days (DAY / 30); Terms 3: (this MONTH) at most the month limit");
    Desk x = room("rule pay : 1 law; limit law month 100;", 0, LAW);
    is(x.paper(PAY, 60, 0, 0, false), 0);
    yes(x.sign(0, 0, 1, 1));
    x.later(29);
    is(x.paper(PAY, 41, 0, 1, false), 1);
    no(x.sign(1, 0, 1, 1));
    is(x.paper(PAY, 40, 0, 2, false), 2);
    yes(x.sign(2, 0, 1, 1));
    is(x.paper(PAY, 0, 0, 3, false), 3);
    yes(x.sign(3, 0, 1, 1));
    x.later(1);
    is(x.about(0), 30);
    yes(x.sign(1, 0, 1, 1));
    is(x.paper(PAY, 60, 0, 4, false), 4);
    no(x.sign(4, 0, 1, 1));
    x.later(29);
    no(x.sign(4, 0, 1, 1));
    is(x.greatest(PAY, 5, false, 0, 2), 59);
    x.later(1);
    is(x.about(0), 60);
    yes(x.sign(4, 0, 1, 1));
    sentence("Terms 3: both limits hold, the day's and the month's");
    Desk y = room("rule pay : 1 law; limit law day 50 month 70;", 0, LAW);
    is(y.paper(PAY, 51, 0, 0, false), 0);
    is(y.paper(PAY, 50, 0, 1, false), 1);
    is(y.paper(PAY, 21, 0, 2, false), 2);
    is(y.paper(PAY, 20, 0, 3, false), 3);
    no(y.sign(0, 0, 1, 1));
    yes(y.sign(1, 0, 1, 1));
    no(y.sign(3, 0, 1, 1));
    y.later(1);
    no(y.sign(2, 0, 1, 1));
    yes(y.sign(3, 0, 1, 1));
  }

  private static void limitsOfAllSlots() {
    sentence("Terms 3: what was signed, of all PAPERS: of any SLOT, in front of which one is not signed, too");
    Desk x = room("rule pay : 3 law; limit law day 50;", 0, LAW, LAW, LAW);
    is(x.paper(PAY, 30, 0, 0, false), 0);
    is(x.paper(PAY, 21, 0, 1, false), 1);
    is(x.paper(PAY, 20, 0, 2, false), 2);
    yes(x.sign(0, 2, 1, 1));
    no(x.sign(1, 0, 1, 1));
    is(x.holders(1), 4 + 8);
    is(x.way(1), -2);
    yes(x.sign(2, 1, 1, 1));
    is(x.signed(1, 4, 0, false), 50);
    is(x.greatest(PAY, 3, false, 0, 15), 0);
    is(load(x, "limit law month 50;"), 0);
    no(x.sign(1, 0, 1, 1));
    is(load(x, "limit law month 71;"), 0);
    yes(x.sign(1, 0, 1, 1));
  }

  private static void limitsOfWhom() {
    sentence("Terms 3: what was signed in that NAME, whoever held the pen, in that ROLE, of all PAPERS");
    Desk x = room("rule pay : 1 law; rule bill : 1 head; limit law day 100; limit head day 70;", 0, LAW | HEAD, LAW);
    yes(x.away(1, 0, 5));
    is(x.deputy(1, 2, 0, 5, 1000), 0);
    is(x.paper(PAY, 80, 0, 0, false), 0);
    is(x.paper(PAY, 21, 0, 1, false), 1);
    is(x.paper(PAY, 100, 0, 2, false), 2);
    is(x.paper(BILL, 70, 0, 0, false), 3);
    yes(x.sign(0, 0, 2, 1));
    no(x.sign(1, 0, 2, 1));
    yes(x.sign(2, 0, 2, 2));
    yes(x.sign(3, 0, 2, 1));
    is(x.signed(1, 4, 0, false), 80);
    is(x.signed(2, 4, 0, false), 100);
    is(x.signed(1, 1, 0, false), 70);
    is(x.signed(2, 1, 0, false), 0);
    sentence("Terms 3: at most the ROLE's limit in the RULES of now (none told: no limit)");
    Desk y = room("rule pay : 1 law; limit law day 100;", 0, LAW);
    is(y.paper(PAY, 60, 0, 0, false), 0);
    is(load(y, "limit law day 59;"), 0);
    no(y.sign(0, 0, 1, 1));
    is(load(y, "limit law day 60;"), 0);
    yes(y.sign(0, 0, 1, 1));
    is(load(y, "rule pay : 1 law; limit law day 59;"), 1);
    is(y.paper(PAY, 0, 0, 1, false), 1);
    no(y.sign(1, 0, 1, 1));
    is(load(y, "limit law month 59;"), 0);
    no(y.sign(1, 0, 1, 1));
    is(load(y, "limit head day 0 month 0;"), 0);
    yes(y.sign(1, 0, 1, 1));
    sentence("Terms 2: limit day 0, month 0: only sums of 0");
    is(load(y, "rule pay : 1 head; limit head day 0;"), 1);
    yes(y.roles(1, HEAD));
    is(y.paper(PAY, 1, 0, 2, false), 2);
    is(y.paper(PAY, 0, 0, 3, false), 3);
    no(y.sign(2, 0, 1, 1));
    is(load(y, "limit head month 0;"), 0);
    no(y.sign(2, 0, 1, 1));
    yes(y.sign(3, 0, 1, 1));
    is(y.rules(), 0);
    yes(y.sign(2, 0, 1, 1));
  }

  private static void largestLimits() {
    sentence("Terms 3: none told: no limit, whatever was signed; Terms 2: limits of 7 digits");
    Desk x = room("rule pay : 1 law;", 0, LAW);
    for (int i = 0; i < 40; i++) {
      is(x.paper(PAY, 1000000, 0, i % 8, false), i);
      if (i < 39) yes(x.sign(i, 0, 1, 1));
    }
    is(x.signed(1, 4, 0, false), 39000000);
    is(x.signed(1, 4, 0, true), 39000000);
    is(load(x, "limit law day 9999999;"), 0);
    no(x.sign(39, 0, 1, 1));
    is(load(x, "limit law month 9999999;"), 0);
    no(x.sign(39, 0, 1, 1));
    is(load(x, "limit head day 0;"), 0);
    yes(x.sign(39, 0, 1, 1));
    is(x.signed(1, 4, 0, true), 40000000);
    Desk y = room("rule pay : 1 law; limit law day 9999999;", 0, LAW);
    for (int i = 0; i < 10; i++) {
      is(y.paper(PAY, i == 9 ? 999999 : 1000000, 0, i % 8, false), i);
      yes(y.sign(i, 0, 1, 1));
    }
    is(y.paper(PAY, 1, 0, 0, false), 10);
    no(y.sign(10, 0, 1, 1));
    is(y.signed(1, 4, 0, false), 9999999);
  }

  private static void signedCounts() {
    sentence("Terms 3: what was signed counts, whatever becomes of the PAPER");
    Desk x = room("rule pay : 2 law; limit law day 50;", 0, LAW, LAW, LAW);
    is(x.paper(PAY, 50, 0, 0, false), 0);
    is(x.paper(PAY, 1, 0, 1, false), 1);
    yes(x.sign(0, 0, 1, 1));
    yes(x.withdraw(0));
    is(x.signed(1, 4, 0, false), 50);
    no(x.sign(1, 0, 1, 1));
    sentence("Terms 3: but if it is SENT BACK");
    is(x.paper(PAY, 50, 0, 2, false), 2);
    yes(x.sign(2, 0, 2, 2));
    no(x.sign(1, 0, 2, 2));
    is(x.signed(2, 4, 0, true), 50);
    yes(x.back(2));
    is(x.signed(2, 4, 0, false), 0);
    is(x.signed(2, 4, 0, true), 0);
    yes(x.sign(1, 0, 2, 2));
    is(x.signed(2, 4, 0, false), 1);
    yes(x.sign(1, 1, 3, 3));
    is(x.of(1, 0), 1);
    is(x.signed(3, 4, 0, false), 1);
    sentence("Terms 3: what was signed counts in the ROLE of then, though the ROLES are others now");
    yes(x.roles(3, 0));
    is(x.signed(3, 4, 0, false), 1);
  }

  private static void back() {
    sentence("Promise 18: a PAPER is SENT BACK: true; false, doing nothing, if it can't be");
    for (int paper : new int[] {2, 3, 4, 5, -1, 40, LOWEST, HIGHEST}) denied(Cases::busy, d -> d.back(paper));
    sentence("Terms 3: SENT BACK a PAPER has no SLOT signed, and is BEGUN anew today");
    Desk x = new Desk();
    busy(x);
    yes(x.back(0));
    is(x.of(0, 0), 0);
    is(x.of(0, 1), 140);
    is(x.of(0, 2), 3);
    is(x.of(0, 3), 0);
    is(x.of(0, 4), 0);
    is(x.of(0, 5), 1);
    none(x.slot(0, 0, 2));
    none(x.slot(0, 0, 3));
    is(x.signed(1, 4, 0, false), 0);
    yes(x.sign(0, 0, 1, 1));
    is(x.signed(1, 4, 1, false), 110);
    yes(x.back(0));
    yes(x.back(0));
    sentence("Terms 3: SENT BACK its RULE is told by the RULES of now");
    is(x.cut(0), 0);
    is(x.rules(), 0);
    yes(x.back(0));
    is(x.of(0, 0), 2);
    is(x.of(0, 2), 0);
    no(x.back(0));
    yes(x.withdraw(0));
    is(x.of(0, 0), 3);
    sentence("Promise 18: the last PAPER is SENT BACK as others are, though there are 40");
    Desk y = new Desk();
    full(y);
    yes(y.back(39));
    no(y.back(40));
    is(y.about(6), 40);
  }

  private static void withdraw() {
    sentence("Promise 19: a PAPER is WITHDRAWN: likewise; WITHDRAWN it may be when UNDER WAY, or WITHOUT a RULE");
    for (int paper : new int[] {2, 4, 5, -1, 40, LOWEST, HIGHEST}) denied(Cases::busy, d -> d.withdraw(paper));
    for (int paper : new int[] {0, 1, 3}) {
      Desk x = new Desk();
      busy(x);
      yes(x.withdraw(paper));
      is(x.of(paper, 0), 3);
      no(x.withdraw(paper));
      no(x.back(paper));
      is(x.holders(paper), 0);
      none(x.way(paper));
    }
    Desk y = new Desk();
    full(y);
    yes(y.withdraw(39));
    no(y.withdraw(40));
    is(y.of(39, 0), 3);
    Consumer<Desk> withdrawn = d -> {
      busy(d);
      d.withdraw(0);
    };
    denied(withdrawn, d -> d.withdraw(0));
    denied(withdrawn, d -> d.back(0));
    denied(withdrawn, d -> d.sign(0, 1, 3, 3));
  }

  private static void signed() {
    sentence("Promise 20: what was signed in a NAME in a ROLE on a day, or in the MONTH of that day");
    Desk x = room("rule pay : 1 law;", 0, LAW);
    int[] days = {0, 29, 1, 29, 1};
    int day = 0;
    for (int i = 0; i < 5; i++) {
      day += days[i];
      x.later(days[i]);
      is(x.paper(PAY, 1 << i, 0, i, false), i);
      yes(x.sign(i, 0, 1, 1));
      is(x.signed(1, 4, day, false), 1 << i);
    }
    long[][] due = {{0, 1, 3}, {1, 0, 3}, {28, 0, 3}, {29, 2, 3}, {30, 4, 12}, {31, 0, 12}, {58, 0, 12}, {59, 8, 12}, {60, 16, 16},
        {89, 0, 16}, {90, 0, 0}};
    for (long[] row : due) {
      is(x.signed(1, 4, (int) row[0], false), row[1]);
      is(x.signed(1, 4, (int) row[0], true), row[2]);
    }
    sentence("Promise 20: on a day (from 0 on); NONE if there is none such");
    is(x.signed(1, 4, 100001, false), 0);
    is(x.signed(1, 4, HIGHEST, false), 0);
    is(x.signed(1, 4, HIGHEST, true), 0);
    for (int none : new int[] {-1, -30, LOWEST}) {
      none(x.signed(1, 4, none, false));
      none(x.signed(1, 4, none, true));
    }
    is(x.signed(0, 4, 0, true), 0);
    is(x.signed(1, 0, 0, true), 0);
    is(x.signed(1, 7, 0, true), 0);
    for (int role : new int[] {-1, 8, LOWEST, HIGHEST}) none(x.signed(1, role, 0, true));
    for (int name : new int[] {-1, 2, 14, 33, LOWEST, HIGHEST}) none(x.signed(name, 4, 0, true));
    sentence("Promise 20: a SLOT that is not signed counts on no day, the first one too");
    Desk y = room("rule pay : 2 clerk;", CLERK, CLERK);
    is(y.paper(PAY, 9, 0, 0, false), 0);
    is(y.signed(0, 0, 0, false), 0);
    is(y.signed(1, 0, 0, true), 0);
    yes(y.sign(0, 1, 1, 1));
    is(y.signed(0, 0, 0, false), 0);
    is(y.signed(1, 0, 0, false), 9);
  }

  public static void main(String[] args) {
    span();
    papersThatCannotBe();
    fortyPapers();
    joinedWithWhom();
    joinedAnew();
    ruleStays();
    states();
    slots();
    lastSlot();
    signsThatCannotBe();
    stepByStep();
    handsAndNames();
    onceOnAPaper();
    dayLimit();
    monthLimit();
    limitsOfAllSlots();
    limitsOfWhom();
    largestLimits();
    signedCounts();
    back();
    withdraw();
    signed();
    finish();
  }
}
