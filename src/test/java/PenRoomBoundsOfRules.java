import java.util.function.Consumer;

/** The bounds of Terms 2 and of the promises 9 to 12: the tape, its tokens, how much a text may hold, and its faults. */
public final class PenRoomBoundsOfRules extends Cases {
  private static final String RULE = "rule pay : 1 law;";
  private static final String SIXTY = times(59, "urgent or ") + "urgent";
  private static final String EIGHT_LIMITS = "limit clerk day 1;limit head day 1;limit chief day 1;limit money day 1;"
      + "limit law day 1;limit board day 1;limit guard day 1;limit owner day 1;";

  /** So many bytes on the tape, all blanks. */
  private static void blanks(Desk x, int bytes) {
    while (x.about(7) < bytes) {
      x.feed(0x20202020, 0x20202020, 0x20202020, 0x20202020, 0x20202020);
      if (x.about(7) > bytes) x.cut(bytes);
    }
  }

  private static void feedCounts() {
    sentence("Promise 9: twenty bytes come: how many there are");
    Desk x = new Desk();
    for (int i = 1; i <= 50; i++) is(x.feed(0, 0, 0, 0, 0), i * 20);
    is(x.about(7), 1000);
    sentence("Promise 9: NONE, and nothing comes, if there would be more than 1,000");
    none(x.feed(0, 0, 0, 0, 0));
    is(x.about(7), 1000);
    is(x.cut(981), 981);
    none(x.feed(0, 0, 0, 0, 0));
    is(x.about(7), 981);
    is(x.cut(980), 980);
    is(x.feed(0, 0, 0, 0, 0), 1000);
    is(x.cut(979), 979);
    is(x.feed(0, 0, 0, 0, 0), 999);
    none(x.feed(0, 0, 0, 0, 0));
    is(x.about(7), 999);
    for (int bytes : new int[] {981, 990, 999, 1000}) {
      Consumer<Desk> full = d -> {
        busy(d);
        d.cut(0);
        feed(d, times(bytes - 16, " ") + "rule trip:1 law;");
      };
      refused(full, d -> d.feed(0x23232323, 0x23232323, 0x23232323, 0x23232323, 0x23232323));
    }
  }

  /** A sign that is no token stands at each of the twenty places in turn. */
  private static void feedOrder() {
    sentence("Promise 9: twenty bytes come behind those on the TAPE, of each number the highest first");
    Desk x = new Desk();
    for (int k = 0; k < 20; k++) {
      String text = times(k, " ") + "#" + times(19 - k, " ");
      is(feedTwenty(x, text, 0), 20);
      none(x.rules());
      is(x.fault(0), 1);
      is(x.fault(1), k);
    }
    is(x.feed(0x20202020, 0x20202020, 0x20202020, 0x20202020, 0x20202020), 20);
    is(x.feed(0x2020203b, 0x23202020, 0x20202020, 0x20202020, 0x20202020), 40);
    none(x.rules());
    is(x.fault(0), 2);
    is(x.fault(1), 23);
    is(x.feed(0x72756c65, 0x20706179, 0x3a312068, 0x6561643b, 0x20202020), 20);
    is(x.rules(), 1);
    sentence("Promise 9: the TAPE is filled anew behind rules()");
    Desk y = new Desk();
    for (int turn = 0; turn < 3; turn++) {
      for (int i = 1; i <= 50; i++) is(y.feed(0x20202020, 0x20202020, 0x20202020, 0x20202020, 0x20202020), i * 20);
      is(y.rules(), 0);
      is(y.about(7), 0);
    }
  }

  private static void cut() {
    sentence("Promise 10: the TAPE has its first n bytes: n");
    Desk x = new Desk();
    is(x.cut(0), 0);
    feed(x, RULE + "###");
    is(x.cut(20), 20);
    is(x.cut(17), 17);
    is(x.about(7), 17);
    is(x.rules(), 1);
    feed(x, RULE);
    is(x.cut(16), 16);
    none(x.rules());
    is(x.fault(1), 16);
    feed(x, RULE);
    is(x.cut(0), 0);
    is(x.rules(), 0);
    feed(x, "rule pay : 1 law#");
    is(x.cut(16), 16);
    feed(x, ";");
    is(x.rules(), 1);
    sentence("Promise 10: NONE, doing nothing, if it has not so many, or n is below 0");
    Desk y = new Desk();
    none(y.cut(1));
    none(y.cut(-1));
    is(y.feed(0x20202020, 0x20202020, 0x20202020, 0x20202020, 0x20202020), 20);
    none(y.cut(21));
    is(y.about(7), 20);
    is(y.cut(20), 20);
    is(y.cut(19), 19);
    none(y.cut(20));
    is(y.about(7), 19);
    for (int n : new int[] {21, 1000, 1001, -1, LOWEST, HIGHEST}) refused(Cases::busy, d -> d.cut(n));
    Desk z = new Desk();
    blanks(z, 1000);
    none(z.cut(1001));
    is(z.cut(1000), 1000);
    is(z.cut(999), 999);
  }

  /** What was fed and cut off again, or read before, is not there any more. */
  private static void cutOffIsGone() {
    sentence("Promise 10: what is cut off is not read, whatever it would have made of the last TOKEN");
    for (String text : new String[] {"rule pay : 1 law", "limit law day 5", "limit law day ", "rule pay when sum < 12"}) {
      for (String more : new String[] {"s", "5", ";", "#", " "}) {
        Desk x = new Desk();
        feed(x, text + more);
        is(x.cut(text.length()), text.length());
        none(x.rules());
        is(x.fault(0), 2);
        is(x.fault(1), text.length());
      }
    }
    Desk x = new Desk();
    feed(x, "rule pay : 1 laws; ###");
    none(x.rules());
    feed(x, "rule pay : 1 law");
    none(x.rules());
    is(x.fault(0), 2);
    is(x.fault(1), 16);
  }

  private static void rulesAreTold() {
    sentence("Promise 11: the TAPE (empty then) is the RULES: how many rules");
    Desk x = new Desk();
    is(load(x, RULE + "limit law day 5;" + RULE), 2);
    is(x.about(7), 0);
    is(x.about(4), 2);
    is(x.about(5), 1);
    is(load(x, "limit law day 5; limit head day 5;"), 0);
    is(x.about(4), 0);
    is(x.about(5), 2);
    is(load(x, RULE), 1);
    is(x.about(5), 0);
    is(x.rules(), 0);
    is(x.about(4), 0);
    sentence("Terms 2: text = {line}: an empty text, and one of blanks, has none");
    good(0, "");
    good(0, " ");
    good(0, "\n");
    good(0, times(1000, " "));
    sentence("Promise 11: NONE: a FAULT (the RULES stay)");
    Desk y = room("rule pay when sum < 50 : 1 law; rule pay : 1 head; limit law day 20;", 0, LAW, HEAD);
    none(load(y, "rule pay : 1 clerk; limit law day 10; limit head day 10; rule bill : 1 clerk; x"));
    is(y.about(7), 0);
    is(y.about(4), 2);
    is(y.about(5), 1);
    is(y.paper(PAY, 20, 0, 0, false), 0);
    is(y.slot(0, 0, 0), 4);
    is(y.holders(0), 2);
    is(y.paper(PAY, 30, 0, 0, false), 1);
    is(y.slot(1, 0, 0), 1);
    is(y.holders(1), 4);
    is(y.paper(BILL, 1, 0, 0, false), 2);
    is(y.of(2, 0), 2);
    none(load(y, "rule bill : 1 clerk; limit"));
    is(y.greatest(PAY, 1, false, 0, 2), 20);
  }

  private static void thousandBytes() {
    sentence("Terms 2: a text of at most 1,000 bytes: its last byte is read");
    good(1, times(983, " ") + RULE);
    good(1, RULE + times(983, "\n"));
    fault(2, times(984, " ") + "rule pay : 1 law@");
    fault(2, RULE + times(982, " ") + "@;");
    fault(1, RULE + times(982, " ") + "@#");
    fault(2, RULE + times(982, " ") + "@5");
    fault(2, RULE + times(975, " ") + "@limiqlim");
    fault(1, RULE + times(974, " ") + "@limiqlimq");
    fault(2, times(985, " ") + "limit law day 5@");
    fault(2, times(994, " ") + "limit @");
    fault(2, times(996, " ") + "@limi");
    fault(2, times(999, " ") + "@r");
    fault(2, "limit law day 1; rule pay : 1" + times(969, " ") + "@la");
  }

  private static void eachByte() {
    sentence("Terms 2: TOKENS: words (a .. z), N, signs : ; ( ) < > =; blanks (32, 10)");
    Desk x = new Desk();
    for (int b = 0; b < 256; b++) {
      if (b == 100 || b == 200) x = new Desk();
      boolean blank = b == 32 || b == 10;
      boolean token = b >= 'a' && b <= 'z' || b >= '0' && b <= '9' || ":;()<>=".indexOf(b) >= 0;
      x.feed(0x20200000 | b << 8 | 0x20, 0x20202020, 0x20202020, 0x20202020, 0x20202020);
      is(x.rules(), blank ? 0 : -1);
      due("fault(0) of byte " + b, x.fault(0), blank ? 0 : token ? 2 : 1);
      due("fault(1) of byte " + b, x.fault(1), blank ? -1 : 2);
    }
    sentence("Terms 2: blanks part TOKENS or not");
    good(1, "rule\npay\n:\n1\nlaw\n;\n");
    good(1, "\n \n rule  pay\n\n:1  law;");
    good(1, "rule pay when(sum<5)and(place=1)or not(urgent):1 law and 2 head then 1 law;limit law day5 month6;");
    good(2, "rule pay:1 law;rule pay:1 law;limit law day 5;");
    fault(1, "rule@\tpay : 1 law;");
    fault(1, "rule pay : 1 law;@\r\n");
    fault(1, "rule pay : 1@\u00a0law;");
  }

  private static void wordsAndNumbers() {
    sentence("Terms 2: words (a .. z, 8 at most)");
    fault(2, "rule @abcdefgh : 1 law;");
    fault(1, "rule @abcdefghi : 1 law;");
    fault(2, "@zzzzzzzz");
    fault(1, "@zzzzzzzzz");
    fault(1, "@" + times(1000, "z"));
    fault(1, "@ruleorder : 1 law;");
    fault(2, "@rulebill : 1 law;");
    sentence("Terms 2: N (1 to 7 digits)");
    good(0, "limit law day 9999999;");
    good(0, "limit law month 0000000;");
    fault(1, "limit law day @10000000;");
    fault(1, "limit law day @00000001;");
    fault(1, "limit law month @99999999;");
    fault(1, "limit law day @" + times(980, "9"));
    fault(1, "limit law day @4294967297;");
    good(1, "rule pay when sum > 9999999 : 0000003 law;");
    fault(1, "rule pay when sum > @10000000 : 1 law;");
    fault(1, "rule pay : @00000003 law;");
    fault(1, "rule pay when place = @00000001 : 1 law;");
    fault(1, "rule pay when place = @4294967296 : 1 law;");
    fault(1, "rule pay : @4294967297 law;");
    sentence("Terms 2: each is as long as can be");
    fault(2, "@rulepay : 1 law;");
    fault(2, "rule pay : 1 @laws;");
    fault(2, "rule pay when urgent @orurgent : 1 law;");
    fault(2, "rule pay when urgent @order : 1 law;");
    fault(2, "rule pay when @notsum < 5 : 1 law;");
    fault(1, "rule pay when @noturgent : 1 law;");
    fault(4, "rule pay : @11 law;");
    fault(2, "rule pay : 1 @1 law;");
    fault(4, "rule pay when place = @11 : 1 law;");
    sentence("Terms 2: no letter directly behind an N");
    fault(1, "rule pay : @1law;");
    fault(1, "rule pay when sum < @5and urgent : 1 law;");
    fault(1, "limit law day @5month 6;");
    fault(1, "limit law day @5a;");
    fault(1, "limit law day @5z;");
    fault(1, "rule pay when place = @7or urgent : 1 law;");
    good(0, "limit law day 5;");
    good(1, "rule pay when sum<5:1 law;");
    good(1, "rule pay when(sum<5)or(place=7):1 law;");
    good(0, "limit law day5 month6;");
    fault(1, "limit law day 5@A;");
    fault(1, "limit law day 5@`;");
    fault(1, "limit law day 5@{;");
    fault(1, "limit law day @5a");
  }

  private static void kinds() {
    sentence("Terms 2: KINDS: bill 0, order 1, pay 2, trip 3");
    for (int kind = 0; kind < 4; kind++) {
      Desk x = room("rule " + KIND_WORDS[kind] + " : 1 law;", 0, LAW);
      for (int other = 0; other < 4; other++) {
        is(x.paper(other, 5, 0, 0, false), other);
        is(x.of(other, 0), other == kind ? 0 : 2);
        is(x.greatest(other, 1, false, 0, 2), other == kind ? 1000000 : -2);
      }
    }
    for (String word : ROLE_WORDS) fault(2, "rule @" + word + " : 1 law;");
    for (String word : KIND_WORDS) fault(2, "rule pay : 1 @" + word + ";");
    for (String word : KIND_WORDS) fault(2, "limit @" + word + " day 5;");
  }

  private static void atMostInAText() {
    sentence("Terms 2: at most 20 rules in a text");
    good(20, times(20, "rule pay:1 law;"));
    fault(2, times(20, "rule pay:1 law;") + "@rule pay:1 law;");
    fault(2, times(20, "rule pay:1 law;") + "limit law day 1;@rule");
    good(20, times(20, "rule pay:1 law;") + "limit law day 1;");
    sentence("Terms 2: 8 limits (one a ROLE) in a text");
    good(0, EIGHT_LIMITS);
    good(1, EIGHT_LIMITS + RULE);
    fault(2, EIGHT_LIMITS + "@limit law day 1;");
    fault(2, EIGHT_LIMITS + RULE + "@limit");
    fault(2, EIGHT_LIMITS + "@limit pay");
    sentence("Terms 2: 60 tests (sum, place, urgent) in a text");
    good(1, "rule pay when " + SIXTY + ":1 law;");
    good(1, "rule pay when " + times(59, "sum<1 or ") + "sum>2:1 law;");
    good(1, "rule pay when " + times(59, "place=1 or ") + "place=7:1 law;");
    good(1, "rule pay when " + times(59, "urgent and ") + "place=7:1 law;");
    fault(2, "rule pay when " + SIXTY + " or @urgent:1 law;");
    fault(2, "rule pay when " + SIXTY + " or @sum<1:1 law;");
    fault(2, "rule pay when " + SIXTY + " or @sum>1:1 law;");
    fault(2, "rule pay when " + SIXTY + " or @place=1:1 law;");
    fault(2, "rule pay when " + SIXTY + " and not (@place=9):1 law;");
    fault(2, "rule pay when " + times(60, "sum<1 or ") + "@urgent:1 law;");
    fault(2, "rule pay when " + times(60, "place=1 or ") + "@urgent:1 law;");
    fault(2, "rule pay when " + times(20, "urgent or sum<1 or place=1 or ") + "@urgent:1 law;");
    good(2, "rule pay when " + times(29, "urgent or ") + "urgent:1 law;rule bill when " + times(29, "urgent or ") + "urgent:1 law;");
    fault(2, "rule pay when " + times(29, "urgent or ") + "urgent:1 law;rule bill when " + times(30, "urgent or ") + "@urgent:1 law;");
    good(2, "rule pay when " + SIXTY + ":1 law;rule pay:1 law;");
    fault(2, "rule pay when " + SIXTY + ":1 law;rule pay when @urgent:1 law;");
    sentence("Terms 2: each text has its own 20 rules, 8 limits and 60 tests");
    Desk x = new Desk();
    for (int i = 0; i < 3; i++) {
      is(load(x, "rule pay when " + SIXTY + ":1 law;"), 1);
      none(load(x, "rule pay when " + SIXTY + " or"));
      is(load(x, EIGHT_LIMITS), 0);
      is(x.about(5), 8);
      is(load(x, times(20, "rule pay:1 law;")), 20);
    }
  }

  private static void atMostInARule() {
    String four = "1 law then 1 law then 1 law then 1 law";
    sentence("Terms 2: of a rule 4 steps");
    good(1, "rule pay : " + four + ";");
    fault(2, "rule pay : " + four + " @then 1 law;");
    good(2, "rule pay : " + four + ";rule pay : " + four + ";");
    fault(2, "rule pay : " + four + ";rule pay : " + four + " @then 1 law;");
    fault(2, "rule pay : " + four + " and 1 law and 1 law @then 1 law;");
    sentence("Terms 2: 3 needs each");
    good(1, "rule pay : 1 law and 1 law and 1 law;");
    fault(2, "rule pay : 1 law and 1 law and 1 law @and 1 law;");
    good(1, "rule pay : 1 law and 1 law and 1 law then 1 law and 1 law and 1 law then 1 law and 1 law;");
    fault(2, "rule pay : 1 law then 1 law and 1 law and 1 law @and 1 law;");
    fault(2, "rule pay : 1 law and 1 law then 1 law and 1 law and 1 law @and 1 law;");
    fault(2, "rule pay : 1 law then 1 law then 1 law then 1 law and 1 law and 1 law @and 1 law;");
    good(2, "rule pay : 1 law and 1 law and 1 law; rule pay : 1 law and 1 law and 1 law;");
    sentence("Terms 2: 8 SLOTS; 4 an N by which there would be a 9th SLOT");
    good(1, "rule pay : 3 law and 3 law and 2 law;");
    good(1, "rule pay : 2 law then 2 law then 2 law then 2 law;");
    fault(4, "rule pay : 3 law and 3 law and @3 law;");
    fault(4, "rule pay : 3 law and 3 law and 2 law then @1 law;");
    fault(4, "rule pay : 3 law and 3 law and 1 law then @2 law;");
    good(1, "rule pay : 3 law and 3 law and 1 law then 1 law;");
    fault(4, "rule pay : 3 law then 3 law then @3 law;");
    fault(4, "rule pay : 3 law and 3 law and @3 #");
    fault(4, "rule pay : 2 law then 2 law then 2 law then 2 law and @1 law;");
    good(2, "rule pay : 3 law and 3 law and 2 law; rule pay : 3 law and 3 law and 2 law;");
    fault(4, "rule pay : 1 law; rule pay : 3 law and 3 law and @3 law;");
    sentence("Terms 2: (an N ROLE is N SLOTS, one behind the other)");
    Desk x = room("rule pay : 2 law and 1 head and 3 clerk then 2 owner;", 0);
    is(x.paper(PAY, 1, 0, 0, false), 0);
    is(x.of(0, 2), 8);
    int[] roles = {4, 4, 1, 0, 0, 0, 7, 7};
    for (int slot = 0; slot < 8; slot++) {
      is(x.slot(0, slot, 0), roles[slot]);
      is(x.slot(0, slot, 1), slot < 6 ? 0 : 1);
    }
    none(x.slot(0, 8, 0));
  }

  private static void numbersOfNeedsAndPlaces() {
    sentence("Terms 2: need = N ROLE (N 1 .. 3); 4 an N that can't be (a need's)");
    for (int n = 1; n <= 3; n++) {
      good(1, "rule pay : " + n + " law;");
      Desk x = room("rule pay : " + n + " law;", 0);
      x.paper(PAY, 1, 0, 0, false);
      is(x.of(0, 2), n);
    }
    fault(4, "rule pay : @0 law;");
    fault(4, "rule pay : @4 law;");
    fault(4, "rule pay : @0000000 law;");
    fault(4, "rule pay : @9999999 law;");
    fault(4, "rule pay : 1 law and @0 law;");
    fault(4, "rule pay : 1 law then @4 law;");
    fault(4, "rule pay : @4");
    fault(4, "rule pay : @0 #");
    good(1, "rule pay : 0000001 law;");
    sentence("Terms 2: 4 an N that can't be (place above 7)");
    good(1, "rule pay when place = 0 : 1 law;");
    good(1, "rule pay when place = 7 : 1 law;");
    good(1, "rule pay when place = 0000007 : 1 law;");
    fault(4, "rule pay when place = @8 : 1 law;");
    fault(4, "rule pay when place = @9999999 : 1 law;");
    fault(4, "rule pay when place = @8 #");
    good(1, "rule pay when sum < 8 and sum > 9999999 : 1 law;");
  }

  private static void depth() {
    sentence("Terms 2: 2 an e or one within 8 others, in ( ) or behind not: at its first TOKEN");
    good(1, "rule pay when " + times(7, "(") + "urgent" + times(7, ")") + ":1 law;");
    good(1, "rule pay when " + times(7, "not ") + "urgent:1 law;");
    good(1, "rule pay when " + times(3, "not (") + "not urgent" + times(3, ")") + ":1 law;");
    good(1, "rule pay when " + times(3, "not (") + "(urgent)" + times(3, ")") + ":1 law;");
    fault(2, "rule pay when " + times(8, "(") + "@urgent" + times(8, ")") + ":1 law;");
    fault(2, "rule pay when " + times(8, "(") + " @sum < 5" + times(8, ")") + ":1 law;");
    fault(2, "rule pay when " + times(8, "(") + "@place = 9");
    fault(2, "rule pay when " + times(8, "(") + "@(urgent" + times(9, ")") + ":1 law;");
    fault(2, "rule pay when " + times(8, "(") + "@not urgent");
    fault(2, "rule pay when " + times(8, "not ") + "@urgent:1 law;");
    fault(2, "rule pay when " + times(8, "not ") + "@not urgent:1 law;");
    fault(2, "rule pay when " + times(8, "not ") + "@(urgent):1 law;");
    fault(2, "rule pay when " + times(4, "not (") + "@urgent" + times(4, ")") + ":1 law;");
    fault(2, "rule pay when " + times(4, "(not ") + "@urgent" + times(4, ")") + ":1 law;");
    fault(2, "rule pay when " + times(7, "(") + "urgent or not @urgent" + times(7, ")") + ":1 law;");
    fault(2, "rule pay when " + times(7, "(") + "urgent and (@urgent" + times(8, ")") + ":1 law;");
    fault(2, "rule pay when urgent and " + times(8, "(") + "@urgent");
    fault(2, "rule pay when " + times(8, "(") + "@" + times(292, "("));
    fault(2, "rule pay when " + times(8, "not ") + "@" + times(100, "not "));
    sentence("Terms 2: others that have ended are none within which it is");
    good(1, "rule pay when " + times(4, "(((((((urgent))))))) or ") + times(7, "not ") + "urgent:1 law;");
    good(1, "rule pay when " + times(6, "(") + "urgent or (urgent) and not urgent or (urgent)" + times(6, ")") + ":1 law;");
    good(2, "rule pay when " + times(7, "not ") + "urgent:1 law;rule pay when " + times(7, "not ") + "urgent:1 law;");
    good(1, "rule pay when " + times(8, "not urgent and ") + "urgent:1 law;");
    good(1, "rule pay when " + times(7, "(") + times(9, "urgent and urgent or ") + "urgent" + times(7, ")") + ":1 law;");
  }

  private static void leastFault() {
    sentence("Terms 2: FAULTS at one place the least");
    fault(1, "rule pay when " + times(8, "(") + "@#");
    fault(1, "rule pay when " + times(8, "not ") + "@123456789");
    fault(1, "rule pay : @4law;");
    fault(1, "rule pay : @0x law;");
    fault(1, "rule pay when place = @8and urgent : 1 law;");
    fault(1, "limit law @#;");
    fault(1, "rule pay : 3 law and 3 law and @3law;");
    fault(2, "rule pay @4 law;");
    fault(2, "rule pay : 1 law @4 law;");
    fault(2, "limit law day 1; @law day 1;");
    sentence("Terms 2: FAULTS, the first by its place");
    fault(2, "@x #");
    fault(1, "@# x");
    fault(4, "rule pay : @4 x");
    fault(4, "rule pay when place = @9 : 4 law; #");
    fault(3, "limit law day 1; limit @law #");
    fault(2, "rule pay : 1 law; @; #");
    sentence("Terms 2: (bytes from 0; the end: the text's length)");
    fault(2, "@x");
    fault(1, "@\u0000");
    fault(2, "rule @");
    fault(2, "rule \n @");
    fault(2, "rule pay@");
    fault(2, "rule pay : 1 law@");
    fault(2, "rule pay : 1 law @");
    fault(2, "limit law day 1@");
    fault(2, "rule pay when " + times(8, "not ") + "@");
    fault(2, "rule pay when " + times(8, "(") + " @");
  }

  private static void limitsInAText() {
    sentence("Terms 2: 2 a limit with neither day nor month: at what stands there");
    fault(2, "limit law @;");
    fault(2, "limit law @");
    fault(2, "limit law @5;");
    fault(2, "limit law @law day 5;");
    fault(2, "limit law @rule pay : 1 law;");
    fault(1, "limit law @.;");
    good(0, "limit law day 5;");
    good(0, "limit law month 5;");
    good(0, "limit law day 5 month 5;");
    fault(2, "limit law month 5 @day 5;");
    fault(2, "limit law day 5 @day 5;");
    fault(2, "limit law month 5 @month 5;");
    fault(2, "limit law day @month 5;");
    fault(2, "limit law day 5 month @;");
    sentence("Terms 2: 3 a ROLE whose limit is told already: at it");
    for (int role = 0; role < 8; role++) {
      String word = ROLE_WORDS[role];
      String other = ROLE_WORDS[(role + 1) % 8];
      fault(3, "limit " + word + " day 9999999; limit @" + word + " day 5;");
      fault(3, "limit " + word + " month 0; limit " + other + " month 0; limit @" + word + " month 0;");
      fault(3, "limit " + word + " day 0; rule pay : 1 law; limit @" + word);
      good(0, "limit " + word + " day 0; limit " + other + " day 0;");
    }
    sentence("Terms 2: a limit is told in its own text alone");
    Desk x = new Desk();
    for (int i = 0; i < 3; i++) is(load(x, "limit law day 5;"), 0);
    none(load(x, "limit law day 5; limit law day 6;"));
    is(x.fault(0), 3);
    is(load(x, "limit law day 5;"), 0);
  }

  private static void tokensThatCannotStand() {
    sentence("Terms 2: 2 one that can't stand there, by the lines of a text");
    String[] marked = {
      "@pay", "@;", "@1", "@:", "@when", "@then", "@law", "rule @rule", "rule @;", "rule pay @pay", "rule pay @;", "rule pay @1",
      "rule pay when @:", "rule pay when @1", "rule pay when @or", "rule pay when @and", "rule pay when @)", "rule pay when (@)",
      "rule pay when not @)", "rule pay when not @and", "rule pay when urgent @;", "rule pay when urgent @urgent",
      "rule pay when urgent @not", "rule pay when urgent @then", "rule pay when urgent @)", "rule pay when (urgent @:",
      "rule pay when (urgent @;", "rule pay when urgent or @or", "rule pay when urgent and @:", "rule pay when sum @=",
      "rule pay when sum @1", "rule pay when sum @sum", "rule pay when sum < @<", "rule pay when sum > @=", "rule pay when sum < @:",
      "rule pay when place @<", "rule pay when place @>", "rule pay when place @1", "rule pay when place = @=",
      "rule pay when place = @:", "rule pay when urgent @= 1", "rule pay : @:", "rule pay : @law", "rule pay : @;", "rule pay : 1 @1",
      "rule pay : 1 @and", "rule pay : 1 @;", "rule pay : 1 law @law", "rule pay : 1 law @or", "rule pay : 1 law @:",
      "rule pay : 1 law @rule", "rule pay : 1 law and @and", "rule pay : 1 law and @law", "rule pay : 1 law then @;",
      "rule pay : 1 law then @then", "rule pay : 1 law;@;", "rule pay : 1 law; @1", "limit @limit", "limit @1", "limit @day",
      "limit law day @day", "limit law day @;", "limit law day 5 @5", "limit law day 5 @rule", "limit law day 5 @and",
      "limit law day 5 month 5 @day", "limit law month 5 @law", "limit law day 5;@;",
      "@xyz", "rule @xyz", "rule pay @xyz", "rule pay when @xyz", "rule pay when not @xyz", "rule pay when sum @xyz",
      "rule pay when sum < @xyz : 1 law;", "rule pay when sum > @xyz : 1 law;", "rule pay when place = @xyz : 1 law;",
      "rule pay : @xyz law;", "rule pay : 1 @xyz;", "rule pay : 1 law @xyz", "rule pay : 1 law and @xyz law;",
      "rule pay : 1 law then @xyz law;", "limit @xyz day 5;", "limit law @xyz", "limit law day @xyz;", "limit law month @xyz;",
      "limit law day 5 @xyz", "limit law day 5 month @xyz;"};
    for (String text : marked) fault(2, text);
  }

  /** Whether the first rule is the one for a paper (two slots), and not the second (one). */
  private static void when(String e, int sum, int place, boolean urgent, boolean want) {
    Desk x = room("rule pay when " + e + " : 2 law; rule pay : 1 law;", 0);
    x.paper(PAY, sum, 0, place, urgent);
    due(e + " with " + sum + " " + place + " " + urgent, x.of(0, 2), want ? 2 : 1);
  }

  private static void testsHold() {
    sentence("Terms 2: sum < N | sum > N | place = N | urgent, on both sides of N");
    when("sum < 100", 99, 0, false, true);
    when("sum < 100", 100, 0, false, false);
    when("sum > 100", 100, 0, false, false);
    when("sum > 100", 101, 0, false, true);
    when("sum < 0", 0, 0, false, false);
    when("sum < 1", 0, 0, false, true);
    when("sum > 0", 0, 0, false, false);
    when("sum > 0", 1, 0, false, true);
    when("sum < 1000000", 1000000, 0, false, false);
    when("sum > 999999", 1000000, 0, false, true);
    when("sum < 9999999", 1000000, 0, false, true);
    when("sum > 9999999", 1000000, 0, false, false);
    when("sum < 0000100", 99, 0, false, true);
    for (int place = 0; place < 8; place++) {
      for (int n = 0; n < 8; n++) when("place = " + n, 0, place, false, n == place);
    }
    when("urgent", 0, 0, true, true);
    when("urgent", 0, 0, false, false);
    sentence("Terms 2: e = both {or both}. both = one {and one}. one = not one | ( e )");
    for (int bits = 0; bits < 8; bits++) {
      boolean a = (bits & 1) != 0;
      boolean b = (bits & 2) != 0;
      boolean c = (bits & 4) != 0;
      int sum = a ? 9 : 1;
      int place = b ? 5 : 4;
      when("sum > 5 or place = 5 and urgent", sum, place, c, a || b && c);
      when("sum > 5 and place = 5 or urgent", sum, place, c, a && b || c);
      when("(sum > 5 or place = 5) and urgent", sum, place, c, (a || b) && c);
      when("sum > 5 and (place = 5 or urgent)", sum, place, c, a && (b || c));
      when("not sum > 5 or place = 5 and not urgent", sum, place, c, !a || b && !c);
      when("not (sum > 5 or place = 5) and urgent", sum, place, c, !(a || b) && c);
      when("not not (sum > 5 and not place = 5) or urgent", sum, place, c, a && !b || c);
      when("sum > 5 and place = 5 and urgent", sum, place, c, a && b && c);
      when("sum > 5 or place = 5 or urgent", sum, place, c, a || b || c);
      when("(sum > 5 or (place = 5 and (urgent or (sum < 5 and (place = 4)))))", sum, place, c, a || b && (c || !a && !b));
    }
    sentence("Terms 2: the most that waits within ( ) and behind or, and: each part is kept");
    String deep = times(7, "place=3 or sum<1 and (") + "place=3 or urgent" + times(7, ")");
    when(deep, 0, 0, true, true);
    when(deep, 0, 0, false, false);
    when(deep, 1, 0, true, false);
    when(deep, 1, 3, false, true);
    String other = times(6, "sum<1 or urgent and (") + "place=3 and not sum > 7" + times(6, ")");
    when(other, 7, 3, true, true);
    when(other, 8, 3, true, false);
    when(other, 7, 3, false, false);
    when(other, 7, 2, true, false);
    when(other, 0, 2, false, true);
    sentence("Terms 2: as many nots as a text can hold");
    String many = times(26, "not not not not not not urgent and ") + "urgent";
    when(many, 0, 0, true, true);
    when(many, 0, 0, false, false);
    when(times(26, "not not not not not not urgent and ") + "not urgent", 0, 0, true, false);
  }

  /** Texts of many nots, one behind the other; the last one must hold as the first one did. */
  private static void manyTexts() {
    sentence("Promise 11: the TAPE is the RULES, however much the texts before it held");
    String many = "rule pay when " + times(26, "not not not not not not urgent and ") + "urgent : 2 law; rule pay : 1 law;";
    Desk x = new Desk();
    x.person(0);
    for (int i = 0; i < 7; i++) {
      is(load(x, many), 2);
      is(x.paper(PAY, 1, 0, 0, true), 2 * i);
      is(x.paper(PAY, 1, 0, 0, false), 2 * i + 1);
      is(x.of(2 * i, 2), 2);
      is(x.of(2 * i + 1, 2), 1);
    }
  }

  private static void ruleOfAPaper() {
    sentence("Terms 2: a PAPER's RULE is the first of its KIND, in order, without a when, or whose e holds");
    Desk x = room("rule bill : 1 law; rule pay when urgent : 2 law; rule pay when sum < 50 : 3 law; rule pay when sum < 60 : 1 law;"
        + "rule order : 1 head; rule order : 2 head;", 0);
    int[][] papers = {{PAY, 10, 1, 2}, {PAY, 49, 0, 3}, {PAY, 50, 0, 1}, {PAY, 59, 0, 1}, {PAY, 60, 0, 0}, {PAY, 60, 1, 2},
        {BILL, 60, 0, 1}, {ORDER, 60, 0, 1}, {TRIP, 60, 1, 0}};
    for (int i = 0; i < papers.length; i++) {
      is(x.paper(papers[i][0], papers[i][1], 0, i % 8, papers[i][2] == 1), i);
      is(x.of(i, 2), papers[i][3]);
      is(x.of(i, 0), papers[i][3] == 0 ? 2 : 0);
    }
    Desk y = room(times(19, "rule pay when urgent:1 law;") + "rule pay : 2 law;", 0);
    is(y.paper(PAY, 1, 0, 0, false), 0);
    is(y.of(0, 2), 2);
    sentence("Terms 2: whose e holds for its JOINED sum");
    Desk z = room("rule pay when sum > 100 : 2 law; rule pay : 1 law;", 0);
    is(z.paper(PAY, 60, 0, 0, false), 0);
    is(z.paper(PAY, 40, 0, 0, false), 1);
    is(z.paper(PAY, 1, 0, 0, false), 2);
    is(z.of(1, 2), 1);
    is(z.of(2, 2), 2);
  }

  private static void faultAsked() {
    sentence("Promise 12: of the latest rules() what 0: its FAULT (0), 1: its place (NONE)");
    Desk x = new Desk();
    is(x.fault(0), 0);
    none(x.fault(1));
    none(load(x, RULE + " x"));
    is(x.fault(0), 2);
    is(x.fault(1), 18);
    feed(x, RULE);
    is(x.fault(0), 2);
    is(x.fault(1), 18);
    none(load(x, "#"));
    is(x.fault(0), 1);
    is(x.fault(1), 17);
    none(load(x, "#"));
    is(x.fault(0), 1);
    is(x.fault(1), 0);
    is(load(x, RULE), 1);
    is(x.fault(0), 0);
    none(x.fault(1));
    none(load(x, "rule pay : 4 law;"));
    is(x.fault(0), 4);
    is(x.rules(), 0);
    is(x.fault(0), 0);
    none(x.fault(1));
    sentence("Promise 12: NONE for another what");
    none(load(x, "x"));
    for (int what : new int[] {-1, 2, LOWEST, HIGHEST}) none(x.fault(what));
  }

  public static void main(String[] args) {
    feedCounts();
    feedOrder();
    cut();
    cutOffIsGone();
    rulesAreTold();
    thousandBytes();
    eachByte();
    wordsAndNumbers();
    kinds();
    atMostInAText();
    atMostInARule();
    numbersOfNeedsAndPlaces();
    depth();
    leastFault();
    limitsInAText();
    tokensThatCannotStand();
    testsHold();
    manyTexts();
    ruleOfAPaper();
    faultAsked();
    finish();
  }
}
