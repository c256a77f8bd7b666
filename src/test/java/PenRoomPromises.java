/** One part for each promise of the document: ordinary calls, the edges it names, and wrong calls. */
public final class PenRoomPromises extends Cases {
  private static void newObject() {
    Desk x = new Desk();
    for (int what = 0; what <= 7; what++) due("about(" + what + ")", x.about(what), 0);
    due("fault(0)", x.fault(0), 0);
    due("fault(1)", x.fault(1), -1);
    due("wayOf(0, 0)", x.wayOf(0, 0), -1);
    due("wayOf(7, 1)", x.wayOf(7, 1), -1);
    due("of(0, 0)", x.of(0, 0), -1);
    due("paper without a maker", x.paper(0, 1, 0, 0, false), -1);
    due("greatest without a maker", x.greatest(0, 0, false, 0, 0), -1);
    due("acts", x.acts(0, 0, 0), -1);
    x.person(0);
    due("paper without rules", x.paper(0, 1, 0, 0, false), 0);
    due("of(0, 0)", x.of(0, 0), 2);
    due("NONE", PenRoom.NONE, -1);
  }

  private static void person() {
    Desk x = new Desk();
    due("person(-1)", x.person(-1), -1);
    due("person(256)", x.person(256), -1);
    due("person(lowest)", x.person(LOWEST), -1);
    due("people", x.about(1), 0);
    for (int i = 0; i < 14; i++) due("person", x.person(i == 0 ? 0 : 255), i);
    due("the 15th", x.person(1), -1);
    due("people", x.about(1), 14);
  }

  private static void roles() {
    Desk x = room("rule pay : 1 head;", 0, CLERK);
    x.paper(2, 5, 0, 0, false);
    no("sign without the role", x.sign(0, 0, 1, 1));
    no("roles of nobody", x.roles(2, HEAD));
    no("roles(-1)", x.roles(-1, HEAD));
    no("roles(1, 256)", x.roles(1, 256));
    no("roles(1, -1)", x.roles(1, -1));
    no("sign without the role", x.sign(0, 0, 1, 1));
    yes("roles", x.roles(1, 255));
    due("holders", x.holders(0), 2);
    yes("roles", x.roles(1, 255 - HEAD));
    due("holders", x.holders(0), 0);
    yes("roles", x.roles(1, HEAD));
    yes("sign", x.sign(0, 0, 1, 1));
    yes("roles(1, 0)", x.roles(1, 0));
    due("what was signed stays", x.signed(1, 1, 0, false), 5);
  }

  private static void away() {
    Desk x = room("", 0, 0);
    no("nobody", x.away(2, 0, 0));
    no("nobody", x.away(-1, 0, 0));
    no("from -1", x.away(0, -1, 5));
    no("to 100001", x.away(0, 5, 100001));
    no("from above to", x.away(0, 6, 5));
    due("spans", x.about(2), 0);
    yes("away", x.away(0, 5, 7));
    due("acts on 4", x.acts(0, 0, 4), 1);
    due("acts on 5", x.acts(0, 0, 5), 0);
    due("acts on 7", x.acts(0, 0, 7), 0);
    due("acts on 8", x.acts(0, 0, 8), 1);
    due("acts of another", x.acts(1, 0, 5), 2);
    yes("one day", x.away(1, 9, 9));
    due("acts on 9", x.acts(1, 0, 9), 0);
    yes("all days", x.away(1, 0, 100000));
    due("acts on 100000", x.acts(1, 0, 100000), 0);
    due("acts on 100001", x.acts(1, 0, 100001), 2);
    for (int i = 3; i < 30; i++) yes("span " + i, x.away(i % 2, 20, 20));
    no("the 31st", x.away(0, 20, 20));
    due("spans", x.about(2), 30);
  }

  private static void deputy() {
    Desk x = room("", 0, 0, 0);
    due("nobody", x.deputy(3, 0, 0, 0, 0), -1);
    due("by nobody", x.deputy(0, 3, 0, 0, 0), -1);
    due("nobody", x.deputy(-1, 0, 0, 0, 0), -1);
    due("by nobody", x.deputy(0, -1, 0, 0, 0), -1);
    due("by itself", x.deputy(1, 1, 0, 0, 0), -1);
    due("from -1", x.deputy(0, 1, -1, 0, 0), -1);
    due("to 100001", x.deputy(0, 1, 0, 100001, 0), -1);
    due("from above to", x.deputy(0, 1, 2, 1, 0), -1);
    due("upto -1", x.deputy(0, 1, 0, 0, -1), -1);
    due("upto 1000001", x.deputy(0, 1, 0, 0, 1000001), -1);
    due("deputies", x.about(3), 0);
    x.away(0, 0, 100);
    due("deputy", x.deputy(0, 1, 3, 5, 70), 0);
    due("acts on 2", x.acts(0, 70, 2), 0);
    due("acts on 3", x.acts(0, 70, 3), 2);
    due("acts on 5", x.acts(0, 70, 5), 2);
    due("acts on 6", x.acts(0, 70, 6), 0);
    due("acts with 71", x.acts(0, 71, 4), 0);
    due("deputy", x.deputy(0, 2, 0, 100000, 1000000), 1);
    due("acts with 1000000", x.acts(0, 1000000, 4), 4);
    due("both", x.acts(0, 7, 4), 6);
    for (int i = 2; i < 30; i++) due("deputy " + i, x.deputy(1, 2, 0, 0, 0), i);
    due("the 31st", x.deputy(1, 2, 0, 0, 0), -1);
    due("deputies", x.about(3), 30);
  }

  private static void end() {
    Desk x = room("", 0, 0);
    x.away(0, 0, 9);
    no("none such", x.end(0));
    no("none such", x.end(-1));
    for (int i = 0; i < 30; i++) due("deputy", x.deputy(0, 1, 0, 9, 5), i);
    yes("end", x.end(0));
    no("again", x.end(0));
    due("another one stands", x.acts(0, 5, 0), 2);
    for (int i = 1; i < 30; i++) yes("end", x.end(i));
    due("none stands", x.acts(0, 5, 0), 0);
    due("none stands later", x.acts(0, 5, 9), 0);
    no("none such", x.end(30));
    due("deputies, ended ones too", x.about(3), 30);
    due("ended ones count", x.deputy(0, 1, 0, 9, 5), -1);
  }

  private static void acts() {
    Desk x = room("", 0, 0, 0, 0, 0);
    due("not away", x.acts(2, 1000000, 0), 4);
    due("nobody", x.acts(5, 0, 0), -1);
    due("nobody", x.acts(-1, 0, 0), -1);
    due("sum -1", x.acts(0, -1, 0), -1);
    due("sum 1000001", x.acts(0, 1000001, 0), -1);
    due("day -1", x.acts(0, 0, -1), -1);
    due("a far day", x.acts(0, 0, HIGHEST), 1);
    x.deputy(0, 1, 0, 9, 100);
    due("a deputy of one who is there", x.acts(0, 0, 0), 1);
    x.away(0, 0, 9);
    x.deputy(1, 2, 0, 9, 50);
    due("the deputy is there", x.acts(0, 50, 0), 2);
    x.away(1, 0, 9);
    due("on through one who is away", x.acts(0, 50, 0), 4);
    due("each for the sum", x.acts(0, 51, 0), 0);
    x.deputy(2, 0, 0, 9, 100);
    x.away(2, 0, 9);
    due("a ring has nobody", x.acts(0, 50, 0), 0);
    x.deputy(2, 3, 0, 9, 100);
    due("out of the ring", x.acts(0, 50, 0), 8);
    due("from within it", x.acts(1, 50, 0), 8);
    x.deputy(1, 4, 0, 9, 70);
    due("two ways", x.acts(0, 50, 0), 24);
    due("one way", x.acts(0, 70, 0), 16);
    due("all back", x.acts(0, 50, 10), 1);
  }

  private static void actsFar() {
    Desk x = new Desk();
    for (int i = 0; i < 14; i++) x.person(0);
    for (int i = 0; i < 13; i++) {
      x.away(i, 0, 0);
      x.deputy(i, i + 1, 0, 0, 1000000);
    }
    due("thirteen deputies on", x.acts(0, 1000000, 0), 1 << 13);
    x.away(13, 0, 0);
    x.deputy(13, 0, 0, 0, 1000000);
    due("all in a ring", x.acts(5, 0, 0), 0);
  }

  private static void later() {
    Desk x = new Desk();
    due("later(0)", x.later(0), 0);
    due("later(-1)", x.later(-1), -1);
    due("later(1001)", x.later(1001), -1);
    due("later(highest)", x.later(HIGHEST), -1);
    due("day", x.about(0), 0);
    for (int i = 1; i <= 99; i++) due("later(1000)", x.later(1000), i * 1000);
    due("later(999)", x.later(999), 99999);
    due("later(2)", x.later(2), -1);
    due("day", x.about(0), 99999);
    due("later(1)", x.later(1), 100000);
    due("later(1)", x.later(1), -1);
    due("later(0)", x.later(0), 100000);
  }

  private static void feeding() {
    Desk x = new Desk();
    for (int i = 1; i <= 49; i++) due("feed", x.feed(0, 0, 0, 0, 0), i * 20);
    due("cut", x.cut(979), 979);
    due("feed", x.feed(0, 0, 0, 0, 0), 999);
    due("cut", x.cut(981), 981);
    due("beyond", x.feed(0, 0, 0, 0, 0), -1);
    due("bytes", x.about(7), 981);
    due("cut", x.cut(980), 980);
    due("feed", x.feed(0, 0, 0, 0, 0), 1000);
    due("beyond", x.feed(0, 0, 0, 0, 0), -1);
    due("bytes", x.about(7), 1000);
    Desk y = new Desk();
    // "rule", " pay", ":1 h", "ead;", four blanks: the highest byte of each number comes first
    due("feed", y.feed(0x72756c65, 0x20706179, 0x3a312068, 0x6561643b, 0x20202020), 20);
    due("rules", y.rules(), 1);
    // the highest byte is 0xe9, which is no token; a byte has no sign
    due("feed", y.feed(0xe9202020, 0x20202020, 0x20202020, 0x20202020, 0x20202020), 20);
    due("rules", y.rules(), -1);
    due("fault", y.fault(0), 1);
    due("place", y.fault(1), 0);
    due("feed", y.feed(0x20202020, 0x20202020, 0x20202020, 0x20202020, 0x2020203b), 20);
    due("rules", y.rules(), -1);
    due("place", y.fault(1), 19);
  }

  private static void cutting() {
    Desk x = new Desk();
    due("cut(0)", x.cut(0), 0);
    due("cut(1)", x.cut(1), -1);
    due("cut(-1)", x.cut(-1), -1);
    x.feed(0x72756c65, 0x20706179, 0x3a312068, 0x6561643b, 0x41414141);
    due("cut(21)", x.cut(21), -1);
    due("cut(lowest)", x.cut(LOWEST), -1);
    due("bytes", x.about(7), 20);
    due("cut(20)", x.cut(20), 20);
    due("cut(16)", x.cut(16), 16);
    due("bytes", x.about(7), 16);
    due("rules", x.rules(), 1);
    due("bytes", x.about(7), 0);
  }

  private static void rulesStand() {
    good(0, "");
    good(0, " \n ");
    good(0, "limit head day 5;");
    good(1, "rule bill:1 clerk;");
    good(1, "rule order\nwhen(sum<5 or place=7):3 head and 2 chief then 3 money;");
    good(4, "rule bill:1 law;rule order:2 board;rule pay:3 guard;rule trip:1 owner;");
    good(1, "rule pay : 0000001 head;");
    good(20, times(20, "rule pay:1 law;"));
    good(1, "rule pay when " + times(59, "urgent or ") + "urgent : 1 law;");
    good(1, "rule pay : 1 law then 1 law then 1 law then 1 law and 1 law and 1 law;");
    good(1, "rule pay : 2 law then 3 law and 1 head then 2 head;");
    good(1, "rule pay when sum < 9999999 and not (sum > 0) or place = 0 : 1 head;");
    good(0, "limit clerk day 1 month 2;limit head month 0;limit chief day 0;limit money day 1;"
        + "limit law day 1;limit board day 1;limit guard day 1;limit owner day 9999999;");
    good(1, "rule pay when " + times(7, "(") + "urgent" + times(7, ")") + ":1 law;");
    good(1, "rule pay when " + times(7, "not ") + "urgent:1 law;");
    good(1, "rule pay when " + times(3, "not(") + "not urgent or (sum<5)" + times(3, ")") + ":1 law;");
    Desk x = new Desk();
    due("rules", load(x, "rule pay:1 law; limit law day 5; rule bill:1 head;"), 2);
    due("limits", x.about(5), 1);
    due("a fault", load(x, "limit head day 5; limit clerk day 6; x"), -1);
    due("rules stay", x.about(4), 2);
    due("limits stay", x.about(5), 1);
    due("bytes", x.about(7), 0);
    due("rules", load(x, "limit head day 5; limit clerk day 6;"), 0);
    due("limits", x.about(5), 2);
    due("an empty tape", x.rules(), 0);
    due("limits", x.about(5), 0);
    String sixty = "rule pay when not (" + times(59, "urgent or ") + "urgent) : 1 law;";
    Desk y = new Desk();
    for (int i = 0; i < 10; i++) due("each text has its own tests", load(y, sixty), 1);
    y.person(0);
    y.paper(2, 1, 0, 0, false);
    due("a rule", y.of(0, 0), 0);
  }

  /** Whether the first rule, with this when, is the one for a paper (two slots) and not the second (one). */
  private static void when(String e, int sum, int place, boolean urgent, boolean want) {
    Desk x = room("rule pay when " + e + " : 2 law; rule pay : 1 law;", 0);
    x.paper(2, sum, 0, place, urgent);
    due(e + " with " + sum + " " + place + " " + urgent, x.of(0, 2), want ? 2 : 1);
  }

  private static void rulesHold() {
    when("sum < 100", 99, 0, false, true);
    when("sum < 100", 100, 0, false, false);
    when("sum > 100", 101, 0, false, true);
    when("sum > 100", 100, 0, false, false);
    when("place = 7", 0, 7, false, true);
    when("place = 7", 0, 6, false, false);
    when("urgent", 0, 0, true, true);
    when("not urgent", 0, 0, true, false);
    when("not not urgent", 0, 0, true, true);
    when("urgent or place = 1 and sum > 5", 0, 0, true, true);
    when("sum > 5 and place = 1 or urgent", 0, 0, true, true);
    when("(urgent or place = 1) and sum > 5", 0, 0, true, false);
    when("sum > 5 and (place = 1 or urgent)", 6, 0, true, true);
    when("not urgent or place = 1", 0, 1, true, true);
    when("not (urgent or place = 1)", 0, 1, false, false);
    when("not urgent and place = 1", 0, 1, true, false);
    when("not (urgent and place = 1)", 0, 0, true, true);
    when("urgent and place = 1 and sum < 3", 3, 1, true, false);
    when("urgent or place = 1 or sum < 3", 2, 0, false, true);
    Desk x = room("rule bill:1 law; rule pay when urgent:2 law; rule pay when sum<50:3 law; rule pay when sum<50:1 law;", 0);
    x.paper(2, 10, 0, 0, true);
    due("the first that holds", x.of(0, 2), 2);
    x.paper(2, 10, 0, 1, false);
    due("the next that holds", x.of(1, 2), 3);
    x.paper(2, 50, 0, 2, false);
    due("none holds", x.of(2, 0), 2);
    x.paper(1, 50, 0, 2, false);
    due("none of its kind", x.of(3, 0), 2);
    x.paper(0, 50, 0, 2, false);
    due("without a when", x.of(4, 2), 1);
  }

  private static void faultTokens() {
    fault(0, "");
    fault(1, "@A");
    fault(1, "@#");
    fault(1, "rule pay : 1 law; @\t");
    fault(1, "rule pay @\r: 1 law;");
    fault(1, "rule pay : 1 law; @\u0000");
    fault(1, "rule pay : 1 law; @\u00ff");
    fault(1, "rule pay : 1 law@,");
    fault(1, "rule @abcdefghi : 1 law;");
    fault(2, "rule @abcdefgh : 1 law;");
    fault(1, "rule pay : @12345678 law;");
    fault(4, "rule pay : @1234567 law;");
    fault(1, "rule pay : @00000001 law;");
    fault(1, "rule pay : @1law;");
    fault(1, "rule pay when sum < @5and urgent : 1 law;");
    fault(0, "rule pay when sum<5:1 law;");
    fault(2, "@rulepay : 1 law;");
    fault(2, "rule pay : 1 @1 law;");
    fault(2, "rule pay : 1 law@1;");
    fault(2, "rule pay@1 law;");
    fault(1, "@ruleorder : 1 law;");
    fault(2, "@x #");
    fault(1, "@# x");
    fault(2, "rule @z : 1 law;");
    fault(2, "rule pay when sum > @a : 1 law;");
  }

  private static void faultPlaces() {
    fault(2, "@pay");
    fault(2, "@;");
    fault(2, "@1");
    fault(2, "rule @");
    fault(2, "rule  \n @");
    fault(2, "rule @law : 1 law;");
    fault(2, "rule @clerk : 1 law;");
    fault(2, "rule @month : 1 law;");
    fault(2, "rule pay : 1 @trip;");
    fault(2, "limit @month 5;");
    fault(2, "rule pay@");
    fault(2, "rule pay @1 law;");
    fault(2, "rule pay when @: 1 law;");
    fault(2, "rule pay when urgent @; ");
    fault(2, "rule pay when urgent and @: 1 law;");
    fault(2, "rule pay when urgent @urgent : 1 law;");
    fault(2, "rule pay when (urgent @: 1 law;");
    fault(2, "rule pay when urgent @) : 1 law;");
    fault(2, "rule pay when (@) : 1 law;");
    fault(2, "rule pay when sum @= 5 : 1 law;");
    fault(2, "rule pay when sum < @urgent : 1 law;");
    fault(2, "rule pay when place @< 5 : 1 law;");
    fault(2, "rule pay when place = @law : 1 law;");
    fault(2, "rule pay when not @: 1 law;");
    fault(2, "rule pay : @law;");
    fault(2, "rule pay : 1 @pay;");
    fault(2, "rule pay : 1 @;");
    fault(2, "rule pay : 1 law @");
    fault(2, "rule pay : 1 law @or 1 law;");
    fault(2, "rule pay : 1 law and @;");
    fault(2, "rule pay : 1 law then @;");
    fault(2, "rule pay : 1 law;@;");
    fault(2, "limit @pay day 5;");
    fault(2, "limit law @;");
    fault(2, "limit law @");
    fault(2, "limit law @5;");
    fault(1, "limit law @#;");
    fault(2, "limit law day @;");
    fault(2, "limit law day 5 @day 6;");
    fault(2, "limit law month 5 @day 6;");
    fault(2, "limit law day 5 month @;");
    fault(2, "limit law day 5 month 6@");
    fault(3, "limit law day 5; limit head day 5; limit @law day 5;");
    fault(3, "limit law month 5; limit @law #");
    fault(4, "rule pay : @0 law;");
    fault(4, "rule pay : @4 law;");
    fault(4, "rule pay : @4 #");
    fault(4, "rule pay when place = @8 : 1 law;");
    fault(4, "rule pay when place = @9999999 : 1 law;");
  }

  private static void faultNumbers() {
    fault(2, times(20, "rule pay:1 law;") + "@rule pay:1 law;");
    fault(2, times(20, "rule pay:1 law;") + "limit law day 1; @rule");
    fault(2, "limit clerk day 1;limit head month 0;limit chief day 0;limit money day 1;"
        + "limit law day 1;limit board day 1;limit guard day 1;limit owner day 1; @limit law day 1;");
    fault(2, "rule pay : 1 law then 1 law then 1 law then 1 law @then 1 law;");
    fault(2, "rule pay : 1 law and 1 law and 1 law @and 1 law;");
    fault(2, "rule pay : 1 law then 1 law and 1 law and 1 law @and 1 law;");
    fault(4, "rule pay : 3 law and 3 law and @3 law;");
    fault(4, "rule pay : 3 law and 3 law and 2 law then @1 law;");
    fault(0, "rule pay : 3 law and 3 law and 2 law; rule pay : 3 law and 3 law and 2 law;");
    String sixty = times(59, "urgent or ") + "urgent";
    fault(2, "rule pay when " + sixty + " or @urgent : 1 law;");
    fault(2, "rule pay when " + sixty + " or @sum < 1 : 1 law;");
    fault(2, "rule pay when " + sixty + " : 1 law; rule pay when (@place = 1) : 1 law;");
    fault(2, "rule pay when " + times(8, "(") + "@urgent" + times(8, ")") + " : 1 law;");
    fault(2, "rule pay when " + times(8, "(") + "@(urgent" + times(9, ")") + " : 1 law;");
    fault(2, "rule pay when " + times(8, "not ") + "@urgent : 1 law;");
    fault(2, "rule pay when " + times(4, "not (") + " @not urgent" + times(4, ")") + " : 1 law;");
    fault(1, "rule pay when " + times(8, "(") + "@#");
    fault(2, "rule pay when " + times(8, "not ") + "@");
    fault(0, "rule pay when " + times(4, "(((((((urgent))))))) or ") + times(7, "not ") + "urgent : 1 law;");
  }

  /** What was cut off, or stands beyond a full tape, is not read. */
  private static void faultAtTheEnd() {
    Desk x = new Desk();
    String[] ends = {"rule pay : 1 law", "limit law day 5", "limit law day ", "rule pay : 1 law;"};
    for (String text : ends) {
      for (String more : new String[] {"s", "5", ";", "#"}) {
        feed(x, text + more);
        x.cut(text.length());
        boolean whole = text.endsWith(";");
        due("rules() of " + text, x.rules(), whole ? 1 : -1);
        due("fault(0) of " + text, x.fault(0), whole ? 0 : 2);
        due("fault(1) of " + text, x.fault(1), whole ? -1 : text.length());
      }
    }
    fault(2, "limit law day " + times(985, " ") + "5@");
    fault(2, times(990, " ") + "limit law @");
    fault(2, times(995, " ") + "@limiq");
    fault(2, "rule pay : 1 law" + times(984, "\n") + "@");
    fault(1, times(999, " ") + "@#");
    fault(0, times(983, " ") + "rule pay : 1 law;");
  }

  private static void faultAsked() {
    Desk x = new Desk();
    load(x, "rule pay : 1 law; x");
    due("fault(0)", x.fault(0), 2);
    due("fault(1)", x.fault(1), 18);
    due("fault(2)", x.fault(2), -1);
    due("fault(-1)", x.fault(-1), -1);
    feed(x, "rule pay : 1 law;");
    due("fault(0) of the latest", x.fault(0), 2);
    due("rules", x.rules(), 1);
    due("fault(0)", x.fault(0), 0);
    due("fault(1)", x.fault(1), -1);
  }

  private static void span() {
    Desk x = room("rule pay : 1 law;", 0, 0);
    no("span(-1)", x.span(-1));
    no("span(31)", x.span(31));
    x.paper(2, 100, 0, 0, false);
    x.later(1);
    x.paper(2, 10, 0, 0, false);
    due("span 0", x.of(1, 1), 10);
    yes("span(30)", x.span(30));
    no("span(31)", x.span(31));
    x.later(29);
    x.paper(2, 1, 0, 0, false);
    due("30 days ahead", x.of(2, 1), 111);
    x.later(1);
    x.paper(2, 1, 0, 0, false);
    due("31 days ahead", x.of(3, 1), 12);
    yes("span(0)", x.span(0));
    x.paper(2, 1, 0, 0, false);
    due("span 0, the same day", x.of(4, 1), 2);
  }

  private static void paper() {
    Desk x = room("rule pay when sum > 100 : 2 law; rule pay : 1 law;", 0, 0);
    due("kind -1", x.paper(-1, 0, 0, 0, false), -1);
    due("kind 4", x.paper(4, 0, 0, 0, false), -1);
    due("sum -1", x.paper(2, -1, 0, 0, false), -1);
    due("sum 1000001", x.paper(2, 1000001, 0, 0, false), -1);
    due("maker -1", x.paper(2, 0, -1, 0, false), -1);
    due("maker 2", x.paper(2, 0, 2, 0, false), -1);
    due("place -1", x.paper(2, 0, 0, -1, false), -1);
    due("place 8", x.paper(2, 0, 0, 8, false), -1);
    due("papers", x.about(6), 0);
    due("paper", x.paper(2, 60, 0, 0, false), 0);
    due("another maker", x.paper(2, 60, 1, 0, false), 1);
    due("another kind", x.paper(1, 60, 0, 0, false), 2);
    due("another place", x.paper(2, 60, 0, 1, false), 3);
    due("urgent", x.paper(2, 60, 0, 0, true), 4);
    due("alone", x.of(0, 1), 60);
    due("alone", x.of(1, 1), 60);
    due("alone", x.of(2, 1), 60);
    due("alone", x.of(3, 1), 60);
    due("joined", x.of(4, 1), 120);
    due("a rule by what is joined", x.of(4, 2), 2);
    yes("withdraw", x.withdraw(0));
    due("not with one withdrawn", x.paper(2, 1, 0, 0, false), 5);
    due("joined", x.of(5, 1), 61);
    due("what was joined stays", x.of(4, 1), 120);
    for (int i = 6; i < 40; i++) due("paper " + i, x.paper(2, 1000000, 1, 7, true), i);
    due("all joined", x.of(39, 1), 34000000);
    due("the 41st", x.paper(2, 1, 0, 0, false), -1);
    due("papers", x.about(6), 40);
  }

  private static void ruleStays() {
    Desk x = room("rule pay : 2 law then 1 head; limit law day 100;", 0, LAW, LAW, HEAD);
    x.paper(2, 60, 0, 0, false);
    load(x, "rule pay : 1 clerk; limit law day 59;");
    due("slots stay", x.of(0, 2), 3);
    due("role stays", x.slot(0, 2, 0), 1);
    no("the limits of now", x.sign(0, 0, 1, 1));
    load(x, "limit law day 60;");
    yes("the limits of now", x.sign(0, 0, 1, 1));
    load(x, "");
    x.paper(2, 60, 0, 1, false);
    due("without a rule", x.of(1, 0), 2);
    yes("no limit", x.sign(0, 1, 2, 2));
    yes("sign", x.sign(0, 2, 3, 3));
    due("done", x.of(0, 0), 1);
  }

  private static void of() {
    Desk x = room("rule pay : 1 law and 1 head then 1 chief;", 0, LAW, HEAD, CHIEF);
    x.later(7);
    x.paper(2, 9, 0, 0, false);
    int[] fresh = {0, 9, 3, 0, 0, 7};
    for (int i = 0; i < 6; i++) due("of " + i, x.of(0, i), fresh[i]);
    due("of(0, 6)", x.of(0, 6), -1);
    due("of(0, -1)", x.of(0, -1), -1);
    due("of(1, 0)", x.of(1, 0), -1);
    due("of(-1, 0)", x.of(-1, 0), -1);
    yes("sign", x.sign(0, 1, 2, 2));
    due("signed", x.of(0, 3), 1);
    due("step", x.of(0, 4), 0);
    yes("sign", x.sign(0, 0, 1, 1));
    due("step", x.of(0, 4), 1);
    due("stands", x.of(0, 0), 0);
    yes("sign", x.sign(0, 2, 3, 3));
    int[] done = {1, 9, 3, 3, 2, 7};
    for (int i = 0; i < 6; i++) due("of " + i, x.of(0, i), done[i]);
    x.paper(1, 9, 0, 0, false);
    int[] without = {2, 9, 0, 0, 0, 7};
    for (int i = 0; i < 6; i++) due("of " + i, x.of(1, i), without[i]);
    x.paper(2, 5, 0, 3, false);
    yes("sign", x.sign(2, 0, 1, 1));
    x.later(1);
    yes("withdraw", x.withdraw(2));
    int[] withdrawn = {3, 5, 3, 1, 0, 7};
    for (int i = 0; i < 6; i++) due("of " + i, x.of(2, i), withdrawn[i]);
  }

  private static void slot() {
    Desk x = room("rule pay : 2 law and 1 head then 1 owner;", 0, LAW, LAW, HEAD);
    x.paper(2, 9, 0, 0, false);
    int[] roles = {4, 4, 1, 7};
    int[] steps = {0, 0, 0, 1};
    for (int s = 0; s < 4; s++) {
      due("role", x.slot(0, s, 0), roles[s]);
      due("step", x.slot(0, s, 1), steps[s]);
      due("hand", x.slot(0, s, 2), -1);
      due("name", x.slot(0, s, 3), -1);
    }
    x.away(2, 0, 0);
    x.deputy(2, 3, 0, 0, 9);
    yes("sign", x.sign(0, 1, 3, 2));
    due("hand", x.slot(0, 1, 2), 3);
    due("name", x.slot(0, 1, 3), 2);
    due("hand of another", x.slot(0, 0, 2), -1);
    due("what 4", x.slot(0, 1, 4), -1);
    due("what -1", x.slot(0, 1, -1), -1);
    due("slot 4", x.slot(0, 4, 0), -1);
    due("slot -1", x.slot(0, -1, 0), -1);
    due("paper 1", x.slot(1, 0, 0), -1);
    due("paper -1", x.slot(-1, 0, 0), -1);
    x.paper(0, 9, 0, 0, false);
    due("without a rule", x.slot(1, 0, 0), -1);
  }

  private static void sign() {
    Desk x = room("rule pay : 2 law then 1 head;", LAW | HEAD, LAW | HEAD, LAW | HEAD, HEAD, LAW);
    x.paper(2, 50, 0, 0, false);
    no("no paper", x.sign(1, 0, 1, 1));
    no("no paper", x.sign(-1, 0, 1, 1));
    no("no slot", x.sign(0, 3, 1, 1));
    no("no slot", x.sign(0, -1, 1, 1));
    no("no hand", x.sign(0, 0, 5, 1));
    no("no hand", x.sign(0, 0, -1, 1));
    no("no name", x.sign(0, 0, 1, 5));
    no("no name", x.sign(0, 0, 1, -1));
    no("no name", x.sign(0, 0, 1, 32 + 1));
    no("a later step", x.sign(0, 2, 3, 3));
    no("the maker", x.sign(0, 0, 0, 0));
    no("not the role", x.sign(0, 0, 3, 3));
    no("a hand that does not act", x.sign(0, 0, 2, 1));
    due("nothing was done", x.of(0, 3), 0);
    yes("sign", x.sign(0, 1, 1, 1));
    no("signed already", x.sign(0, 1, 2, 2));
    no("name of another slot", x.sign(0, 0, 1, 1));
    no("a later step yet", x.sign(0, 2, 3, 3));
    x.away(4, 0, 5);
    x.deputy(4, 0, 0, 5, 50);
    x.deputy(4, 1, 0, 5, 50);
    no("away", x.sign(0, 0, 4, 4));
    no("the maker is the hand", x.sign(0, 0, 0, 4));
    no("the hand has signed", x.sign(0, 0, 1, 4));
    x.deputy(4, 3, 0, 5, 49);
    no("beyond the deputy's sum", x.sign(0, 0, 3, 4));
    x.deputy(4, 3, 0, 5, 50);
    yes("a deputy", x.sign(0, 0, 3, 4));
    no("the hand of another slot is the name", x.sign(0, 2, 3, 3));
    x.away(2, 0, 5);
    x.deputy(2, 4, 0, 5, 100);
    no("the hand is away", x.sign(0, 2, 4, 2));
    due("stands", x.of(0, 0), 0);
    no("a name that is away", x.sign(0, 2, 2, 2));
    x.later(6);
    yes("sign", x.sign(0, 2, 2, 2));
    due("done", x.of(0, 0), 1);
    no("done already", x.sign(0, 2, 2, 2));
  }

  private static void signOthers() {
    Desk x = room("rule pay : 2 law;", 0, LAW, LAW, 0, LAW);
    x.paper(2, 50, 0, 0, false);
    x.away(1, 0, 0);
    x.deputy(1, 3, 0, 0, 50);
    yes("sign for 1", x.sign(0, 0, 3, 1));
    x.away(2, 0, 0);
    x.deputy(2, 3, 0, 0, 50);
    no("the same hand again", x.sign(0, 1, 3, 2));
    x.end(0);
    x.later(1);
    no("a name of another slot as hand", x.sign(0, 1, 1, 1));
    yes("another", x.sign(0, 1, 4, 4));
    x.paper(2, 50, 1, 0, false);
    x.away(4, 1, 1);
    x.deputy(4, 1, 1, 1, 50);
    no("a hand that is the maker", x.sign(1, 0, 1, 4));
    no("a name that is the maker", x.sign(1, 0, 1, 1));
    yes("withdraw", x.withdraw(1));
    no("withdrawn", x.sign(1, 0, 2, 2));
  }

  private static void limits() {
    Desk x = room("rule pay : 1 law; limit law day 100 month 250;", 0, LAW, LAW);
    x.later(29);
    x.paper(2, 60, 0, 0, false);
    x.paper(2, 40, 0, 1, false);
    x.paper(2, 1, 0, 2, false);
    yes("60", x.sign(0, 0, 1, 1));
    yes("100 in all", x.sign(1, 0, 1, 1));
    no("101 in all", x.sign(2, 0, 1, 1));
    due("the other holds it", x.holders(2), 4);
    x.later(1);
    yes("the next day and month", x.sign(2, 0, 1, 1));
    x.paper(2, 100, 0, 3, false);
    no("101 in all", x.sign(3, 0, 1, 1));
    x.later(1);
    yes("100", x.sign(3, 0, 1, 1));
    x.paper(2, 100, 0, 4, false);
    x.later(27);
    yes("100, 201 in the month", x.sign(4, 0, 1, 1));
    x.paper(2, 50, 0, 5, false);
    x.paper(2, 49, 0, 6, false);
    x.later(1);
    no("251 in the month", x.sign(5, 0, 1, 1));
    yes("250 in the month", x.sign(6, 0, 1, 1));
    due("month", x.signed(1, 4, 59, true), 250);
    x.later(1);
    yes("the next month", x.sign(5, 0, 1, 1));
    due("day", x.about(0), 60);
  }

  private static void limitsByName() {
    Desk x = room("rule pay : 1 law; rule bill : 1 head; limit law day 100; limit head day 70;", 0, LAW | HEAD, LAW, 0);
    x.away(1, 0, 5);
    x.deputy(1, 2, 0, 5, 1000);
    x.paper(2, 80, 0, 0, false);
    yes("for 1", x.sign(0, 0, 2, 1));
    due("in the name", x.signed(1, 4, 0, false), 80);
    due("not the hand's", x.signed(2, 4, 0, false), 0);
    x.paper(2, 100, 0, 1, false);
    no("the name's limit", x.sign(1, 0, 2, 1));
    yes("the hand's own", x.sign(1, 0, 2, 2));
    x.paper(0, 70, 0, 0, false);
    yes("another role", x.sign(2, 0, 2, 1));
    x.paper(0, 0, 0, 1, false);
    yes("a sum of 0 at the limit", x.sign(3, 0, 2, 1));
    load(x, "limit head day 69;");
    x.paper(0, 0, 0, 2, false);
    due("without a rule", x.of(4, 0), 2);
  }

  /** The lowest person and the lowest role are as good as others. */
  private static void lowestPerson() {
    Desk x = room("rule bill : 1 clerk; limit clerk day 70;", CLERK, 0);
    x.paper(0, 70, 1, 0, false);
    due("holders", x.holders(0), 1);
    due("way", x.way(0), 1);
    due("hand", x.wayOf(0, 0), 0);
    due("name", x.wayOf(0, 1), 0);
    due("greatest", x.greatest(0, 1, false, 1, 1), 70);
    yes("sign", x.sign(0, 0, 0, 0));
    due("signed", x.signed(0, 0, 0, false), 70);
    x.paper(0, 1, 1, 0, false);
    no("beyond the limit", x.sign(1, 0, 0, 0));
    due("holders", x.holders(1), 0);
    x.later(1);
    x.away(0, 1, 1);
    no("away", x.sign(1, 0, 0, 0));
    due("greatest", x.greatest(0, 1, false, 1, 3), -2);
    x.later(1);
    yes("sign", x.sign(1, 0, 0, 0));
  }

  private static void limitBelowSigned() {
    Desk x = room("rule bill : 1 head; limit head day 70;", 0, HEAD);
    x.paper(0, 70, 0, 0, false);
    yes("70", x.sign(0, 0, 1, 1));
    x.paper(0, 0, 0, 1, false);
    load(x, "rule bill : 1 head; limit head month 69;");
    no("already above", x.sign(1, 0, 1, 1));
    due("way", x.way(1), -2);
    due("greatest", x.greatest(0, 2, false, 0, 3), -2);
    load(x, "rule bill : 1 head; limit head month 70;");
    due("greatest", x.greatest(0, 2, false, 0, 3), 0);
    yes("0 at the limit", x.sign(1, 0, 1, 1));
  }

  private static void back() {
    Desk x = room("rule pay when sum > 100 : 2 law; rule pay when sum > 20 : 1 head then 1 law;", 0, LAW, LAW, HEAD);
    x.span(2);
    x.paper(2, 50, 0, 0, false);
    x.later(1);
    x.paper(2, 60, 0, 0, false);
    due("rule of the second", x.of(1, 2), 2);
    due("joined", x.of(1, 1), 110);
    yes("sign", x.sign(0, 0, 3, 3));
    due("signed", x.signed(3, 1, 1, false), 50);
    x.later(1);
    no("no paper", x.back(2));
    no("no paper", x.back(-1));
    yes("back", x.back(0));
    due("signed does not count", x.signed(3, 1, 1, false), 0);
    due("nor in the month", x.signed(3, 1, 1, true), 0);
    due("begun anew", x.of(0, 5), 2);
    due("with all others", x.of(0, 1), 110);
    due("no slot signed", x.of(0, 3), 0);
    due("the rule told anew", x.slot(0, 0, 0), 4);
    due("hand", x.slot(0, 0, 2), -1);
    due("the other stays", x.of(1, 1), 110);
    yes("who signed before may again", x.sign(0, 0, 1, 1));
    load(x, "");
    yes("back", x.back(0));
    due("without a rule now", x.of(0, 0), 2);
    due("no slots", x.of(0, 2), 0);
    no("without a rule", x.back(0));
    load(x, "rule pay : 1 law;");
    x.later(4);
    x.paper(2, 5, 0, 0, false);
    yes("sign", x.sign(2, 0, 1, 1));
    no("done", x.back(2));
    yes("back", x.back(1));
    due("not with one begun too early", x.of(1, 1), 65);
    yes("withdraw", x.withdraw(1));
    no("withdrawn", x.back(1));
  }

  private static void withdraw() {
    Desk x = room("rule pay : 2 law; limit law day 50;", 0, LAW, LAW);
    no("no paper", x.withdraw(0));
    no("no paper", x.withdraw(-1));
    x.paper(2, 50, 0, 0, false);
    yes("sign", x.sign(0, 0, 1, 1));
    yes("withdraw", x.withdraw(0));
    due("stands", x.of(0, 0), 3);
    due("what was signed counts", x.signed(1, 4, 0, false), 50);
    due("hand stays", x.slot(0, 0, 2), 1);
    no("again", x.withdraw(0));
    no("sign", x.sign(0, 1, 2, 2));
    no("back", x.back(0));
    due("holders", x.holders(0), 0);
    due("way", x.way(0), -1);
    x.paper(2, 0, 0, 0, false);
    due("joined without it", x.of(1, 1), 0);
    yes("sign", x.sign(1, 0, 1, 1));
    yes("sign", x.sign(1, 1, 2, 2));
    no("done", x.withdraw(1));
    x.paper(2, 1, 0, 0, false);
    no("what was signed counts", x.sign(2, 0, 1, 1));
    x.paper(1, 1, 0, 0, false);
    yes("without a rule", x.withdraw(3));
    due("stands", x.of(3, 0), 3);
  }

  private static void signed() {
    Desk x = room("rule pay : 1 law; rule bill : 1 head;", 0, LAW | HEAD);
    due("nothing yet", x.signed(1, 4, 0, false), 0);
    for (int i = 0; i < 20; i++) {
      x.paper(2, 1000000, 0, 0, false);
      yes("sign", x.sign(i, 0, 1, 1));
    }
    x.later(29);
    x.paper(2, 5, 0, 0, false);
    yes("sign", x.sign(20, 0, 1, 1));
    x.paper(0, 7, 0, 0, false);
    yes("sign", x.sign(21, 0, 1, 1));
    x.later(1);
    x.paper(2, 3, 0, 0, false);
    yes("sign", x.sign(22, 0, 1, 1));
    due("day 0", x.signed(1, 4, 0, false), 20000000);
    due("day 1", x.signed(1, 4, 1, false), 0);
    due("day 29", x.signed(1, 4, 29, false), 5);
    due("day 30", x.signed(1, 4, 30, false), 3);
    due("month of 0", x.signed(1, 4, 0, true), 20000005);
    due("month of 29", x.signed(1, 4, 29, true), 20000005);
    due("month of 30", x.signed(1, 4, 30, true), 3);
    due("month of 59", x.signed(1, 4, 59, true), 3);
    due("month of 60", x.signed(1, 4, 60, true), 0);
    due("head", x.signed(1, 1, 29, false), 7);
    due("a far day", x.signed(1, 1, HIGHEST, true), 0);
    due("of another", x.signed(0, 4, 0, true), 0);
    due("nobody", x.signed(2, 4, 0, true), -1);
    due("nobody", x.signed(-1, 4, 0, true), -1);
    due("role 8", x.signed(1, 8, 0, true), -1);
    due("role -1", x.signed(1, -1, 0, true), -1);
    due("role 7", x.signed(1, 7, 0, true), 0);
    due("role 0", x.signed(1, 0, 0, true), 0);
    due("day -1", x.signed(1, 4, -1, true), -1);
    due("day -1", x.signed(1, 4, -1, false), -1);
  }

  private static void way() {
    Desk x = room("rule pay : 1 law and 1 head then 1 law;", LAW, LAW | HEAD, LAW, LAW | HEAD, LAW);
    due("no paper", x.way(0), -1);
    due("no paper", x.way(-1), -1);
    x.paper(2, 10, 0, 0, false);
    due("way", x.way(0), 3);
    int[] hands = {1, 3, 2};
    for (int s = 0; s < 3; s++) due("hand", x.wayOf(s, 0), hands[s]);
    due("nothing is signed by it", x.of(0, 3), 0);
    x.roles(3, LAW);
    due("way around", x.way(0), 3);
    int[] others = {2, 1, 3};
    for (int s = 0; s < 3; s++) due("hand", x.wayOf(s, 0), others[s]);
    yes("sign", x.sign(0, 0, 2, 2));
    due("way with what is signed", x.way(0), 2);
    due("signed already", x.wayOf(0, 0), -1);
    due("hand", x.wayOf(1, 0), 1);
    due("hand", x.wayOf(2, 0), 3);
    x.roles(1, LAW);
    due("no way", x.way(0), -2);
    due("the latest way stays", x.wayOf(1, 0), 1);
    x.paper(1, 1, 0, 0, false);
    due("without a rule", x.way(1), -1);
    x.roles(1, HEAD);
    yes("sign", x.sign(0, 1, 1, 1));
    x.away(3, 0, 0);
    x.deputy(3, 4, 0, 0, 10);
    due("way", x.way(0), 1);
    due("the deputy", x.wayOf(2, 0), 4);
    due("the name", x.wayOf(2, 1), 3);
    yes("sign", x.sign(0, 2, 4, 3));
    due("done", x.way(0), -1);
    due("the latest way stays", x.wayOf(2, 1), 3);
  }

  /** A deputy who is the only hand for one slot must not be spent on an earlier one. */
  private static void wayHands() {
    Desk x = room("rule pay : 1 law then 1 head;", 0, LAW, HEAD, 0, 0);
    x.away(1, 0, 9);
    x.away(2, 0, 9);
    x.deputy(1, 3, 0, 9, 100);
    x.deputy(1, 4, 0, 9, 100);
    x.deputy(2, 3, 0, 9, 100);
    x.paper(2, 100, 0, 0, false);
    due("way", x.way(0), 2);
    due("hand 4 for 1", x.wayOf(0, 0), 4);
    due("name", x.wayOf(0, 1), 1);
    due("hand 3 for 2", x.wayOf(1, 0), 3);
    due("name", x.wayOf(1, 1), 2);
    x.paper(2, 100, 3, 0, false);
    due("the maker is the only hand", x.way(1), -2);
    x.paper(2, 101, 0, 1, false);
    due("beyond the deputies' sum", x.way(2), -2);
  }

  private static Desk crowd(String rule, int[] roles, int away, int by) {
    Desk x = room(rule, roles);
    if (away >= 0) {
      x.away(away, 0, 9);
      x.deputy(away, by, 0, 9, 1000000);
    }
    return x;
  }

  private static final int[] AT_LAST_TRY = {0, 7, 1, 3, 2, 0, 2, 2, 1, 2, 2};
  private static final int[] ONE_TOO_MANY = {0, 5, 0, 1, 2, 3, 0, 3, 0, 0, 3, 1, 0, 0};
  private static final int[] NONE_AT_LAST = {0, 2, 6, 0, 3, 5, 7, 0, 4, 5};
  private static final String RULE_AT_LAST = "rule pay : 3 clerk and 3 head and 1 chief;";
  private static final String RULE_TOO_MANY = "rule pay : 2 clerk and 1 head and 3 clerk then 1 chief;";
  private static final String RULE_NONE = "rule pay : 1 chief and 1 head and 3 chief then 3 clerk;";

  private static void wayTries() {
    Desk x = crowd(RULE_AT_LAST, AT_LAST_TRY, 4, 6);
    x.paper(2, 1, 0, 0, false);
    due("found by the 100,000th try", x.way(0), 7);
    due("hand", x.wayOf(6, 0), 1);
    Desk y = crowd(RULE_TOO_MANY, ONE_TOO_MANY, 5, 12);
    y.paper(2, 1, 0, 0, false);
    due("a 100,001st try would find it", y.way(0), -3);
    due("no way is told", y.wayOf(0, 0), -1);
    Desk z = crowd(RULE_NONE, NONE_AT_LAST, -1, -1);
    z.paper(2, 1, 0, 0, false);
    due("sought to its end in 100,000 tries", z.way(0), -2);
    Desk u = crowd("rule pay : 3 clerk and 3 clerk and 1 clerk then 1 head;",
        new int[] {0, 1, 1, 1, 1, 1, 1, 1, 1, 1, 1, 1, 1, 1}, -1, -1);
    u.paper(2, 1, 0, 0, false);
    due("far too many", u.way(0), -3);
    due("holders all the same", u.holders(0), (1 << 14) - 2);
  }

  private static void wayOf() {
    Desk x = room("rule pay : 1 law; rule bill : 2 law;", 0, LAW, LAW);
    x.paper(0, 1, 0, 0, false);
    x.paper(2, 1, 0, 0, false);
    due("way", x.way(0), 2);
    due("hand", x.wayOf(1, 0), 2);
    due("name", x.wayOf(1, 1), 2);
    due("what 2", x.wayOf(1, 2), -1);
    due("what -1", x.wayOf(1, -1), -1);
    due("slot 2", x.wayOf(2, 0), -1);
    due("slot 8", x.wayOf(8, 0), -1);
    due("slot -1", x.wayOf(-1, 0), -1);
    due("slot highest", x.wayOf(HIGHEST, 0), -1);
    due("greatest tells no way", x.greatest(2, 3, false, 0, 4), 1000000);
    due("hand", x.wayOf(0, 0), 1);
    due("way", x.way(1), 1);
    due("the latest has it not", x.wayOf(1, 0), -1);
    due("nor its name", x.wayOf(1, 1), -1);
    due("hand", x.wayOf(0, 0), 1);
  }

  private static void holders() {
    Desk x = room("rule pay : 1 law and 1 head then 1 chief; limit head day 50;", LAW | HEAD | CHIEF, LAW, HEAD, CHIEF, LAW | HEAD, 0);
    due("no paper", x.holders(0), -1);
    due("no paper", x.holders(-1), -1);
    x.paper(2, 50, 0, 0, false);
    due("law or head", x.holders(0), 2 + 4 + 16);
    yes("sign", x.sign(0, 1, 4, 4));
    due("law", x.holders(0), 2);
    x.away(1, 0, 0);
    due("nobody", x.holders(0), 0);
    x.deputy(1, 4, 0, 0, 100);
    due("a hand that has signed", x.holders(0), 0);
    x.deputy(1, 0, 0, 0, 100);
    due("the maker", x.holders(0), 0);
    x.deputy(1, 5, 0, 0, 49);
    due("not for the sum", x.holders(0), 0);
    x.deputy(1, 5, 0, 0, 50);
    x.deputy(1, 3, 0, 0, 50);
    due("deputies", x.holders(0), 8 + 32);
    yes("sign", x.sign(0, 0, 5, 1));
    due("the next step", x.holders(0), 8);
    x.paper(2, 51, 0, 1, false);
    due("head beyond the limit, law by deputies", x.holders(1), 16);
    yes("sign", x.sign(0, 2, 3, 3));
    due("done", x.holders(0), 0);
    x.paper(0, 1, 0, 0, false);
    due("without a rule", x.holders(2), 0);
  }

  private static void greatest() {
    Desk x = room("rule pay when sum > 5000 : 1 chief; rule pay when sum < 100 : 1 clerk; rule pay : 1 law and 1 head; "
        + "rule bill when urgent and place = 3 : 1 law; limit law day 3000; limit clerk month 80;", 0, CLERK, LAW, HEAD, LAW | HEAD);
    due("law by the limit", x.greatest(2, 0, false, 0, 31), 3000);
    due("by another maker", x.greatest(2, 0, false, 2, 31), 3000);
    due("one alone can't", x.greatest(2, 0, false, 0, 16), -2);
    due("clerk", x.greatest(2, 0, false, 0, 2), 80);
    due("nobody", x.greatest(2, 0, false, 0, 0), -2);
    due("no rule", x.greatest(1, 0, false, 0, 31), -2);
    due("urgent and place", x.greatest(0, 3, true, 0, 4), 3000);
    due("not urgent", x.greatest(0, 3, false, 0, 4), -2);
    due("another place", x.greatest(0, 2, true, 0, 4), -2);
    due("kind 4", x.greatest(4, 0, false, 0, 31), -1);
    due("kind -1", x.greatest(-1, 0, false, 0, 31), -1);
    due("place 8", x.greatest(2, 8, false, 0, 31), -1);
    due("place -1", x.greatest(2, -1, false, 0, 31), -1);
    due("maker 5", x.greatest(2, 0, false, 5, 31), -1);
    due("maker -1", x.greatest(2, 0, false, -1, 31), -1);
    due("people beyond", x.greatest(2, 0, false, 0, 32), -1);
    due("people beyond", x.greatest(2, 0, false, 0, -1), -1);
    x.roles(3, HEAD | CHIEF);
    due("chief", x.greatest(2, 0, false, 0, 31), 1000000);
    due("chief alone", x.greatest(2, 0, false, 0, 8), 1000000);
    due("not as maker", x.greatest(2, 0, false, 3, 8), -2);
    due("no paper is made", x.about(6), 0);
    for (int i = 0; i < 39; i++) due("paper", x.paper(1, 0, 0, 0, false), i);
    due("39 papers", x.greatest(2, 0, false, 0, 2), 80);
    x.paper(1, 0, 0, 0, false);
    due("40 papers", x.greatest(2, 0, false, 0, 2), -1);
  }

  private static void greatestJoined() {
    Desk x = room("rule pay when sum > 1000 : 1 chief; rule pay when not sum < 700 : 1 clerk;", 0, CLERK, 0, CHIEF);
    x.span(1);
    due("alone", x.greatest(2, 0, false, 0, 2), 1000);
    x.paper(2, 300, 0, 0, false);
    x.later(1);
    due("joined", x.greatest(2, 0, false, 0, 2), 700);
    due("at another place", x.greatest(2, 1, false, 0, 2), 1000);
    x.paper(2, 701, 0, 0, false);
    due("beyond", x.greatest(2, 0, false, 0, 2), -2);
    due("chief", x.greatest(2, 0, false, 0, 10), 1000000);
    yes("withdraw", x.withdraw(1));
    due("joined", x.greatest(2, 0, false, 0, 2), 700);
    x.away(1, 0, 9);
    due("away", x.greatest(2, 0, false, 0, 2), -2);
    due("deputy", x.deputy(1, 2, 1, 1, 550), 0);
    due("as hand", x.greatest(2, 0, false, 0, 4), 550);
    due("only as name", x.greatest(2, 0, false, 0, 2), -2);
    due("deputy", x.deputy(1, 2, 0, 0, 650), 1);
    due("not of today", x.greatest(2, 0, false, 0, 4), 550);
    due("deputy", x.deputy(1, 2, 0, 9, 399), 2);
    yes("end", x.end(0));
    due("below the rule", x.greatest(2, 0, false, 0, 4), -2);
    due("deputy", x.deputy(1, 2, 0, 9, 400), 3);
    due("at the rule", x.greatest(2, 0, false, 0, 4), 400);
    x.later(1);
    due("not joined any more", x.greatest(2, 0, false, 0, 4), -2);
    Desk y = room("rule pay when sum < 700 : 1 clerk; rule pay when sum < 701 : 1 head;", 0, CLERK, HEAD);
    due("below a sum", y.greatest(2, 0, false, 0, 2), 699);
    due("below a sum", y.greatest(2, 0, false, 0, 4), 700);
    y.paper(2, 699, 0, 0, false);
    due("joined below a sum", y.greatest(2, 0, false, 0, 2), 0);
    due("joined below a sum", y.greatest(2, 0, false, 0, 4), 1);
    y.paper(2, 1, 0, 0, false);
    due("none left", y.greatest(2, 0, false, 0, 2), -2);
    due("0 left", y.greatest(2, 0, false, 0, 4), 0);
  }

  private static void greatestTries() {
    due("the 100,000th try", crowd(RULE_AT_LAST, AT_LAST_TRY, 4, 6).greatest(2, 0, false, 0, 2047), 1000000);
    due("a 100,001st try", crowd(RULE_TOO_MANY, ONE_TOO_MANY, 5, 12).greatest(2, 0, false, 0, 16383), -3);
    due("sought to its end", crowd(RULE_NONE, NONE_AT_LAST, -1, -1).greatest(2, 0, false, 0, 1023), -2);
    // one more without a role, who is not of the set: each pair with that one is a try all the same
    int[] more = java.util.Arrays.copyOf(NONE_AT_LAST, 11);
    due("one more who can't do", crowd(RULE_NONE, more, -1, -1).greatest(2, 0, false, 0, 1023), -3);
    // far too many above 500, a clerk alone below
    Desk x = crowd("rule pay when sum > 500 : 3 clerk and 3 clerk and 1 clerk then 1 head; rule pay : 1 clerk;",
        new int[] {0, 1, 1, 1, 1, 1, 1, 1, 1, 1, 1, 1, 1, 1}, -1, -1);
    due("not sought to its end", x.greatest(2, 0, false, 0, 16383), -3);
    due("few hands", x.greatest(2, 0, false, 0, 31), 500);
    load(x, "rule pay when sum > 600 : 1 head; rule pay when sum > 500 : 3 clerk and 3 clerk and 1 clerk then 1 head;"
        + " rule pay : 1 clerk;");
    due("the first that is not without", x.greatest(2, 0, false, 0, 16383), -3);
  }

  private static void about() {
    Desk x = room("rule pay : 1 law; rule pay : 2 law; limit law day 5; limit head day 5; limit clerk day 5;", 0, 0, 0, 0);
    x.later(3);
    for (int i = 0; i < 5; i++) x.away(0, 0, 0);
    for (int i = 0; i < 6; i++) x.deputy(0, 1, 0, 0, 0);
    for (int i = 0; i < 7; i++) x.paper(0, 0, 0, 0, false);
    x.withdraw(0);
    x.end(0);
    x.feed(0, 0, 0, 0, 0);
    int[] all = {3, 4, 5, 6, 2, 3, 7, 20};
    for (int what = 0; what <= 7; what++) due("about(" + what + ")", x.about(what), all[what]);
    due("about(8)", x.about(8), -1);
    due("about(-1)", x.about(-1), -1);
    due("about(lowest)", x.about(LOWEST), -1);
  }

  private static void part(int number) {
    sentence("Promise " + number);
    switch (number) {
      case 1: newObject(); break;
      case 2: person(); break;
      case 3: roles(); break;
      case 4: away(); break;
      case 5: deputy(); break;
      case 6: end(); break;
      case 7: acts(); actsFar(); break;
      case 8: later(); break;
      case 9: feeding(); break;
      case 10: cutting(); break;
      case 11: rulesStand(); rulesHold(); break;
      case 12: faultTokens(); faultPlaces(); faultNumbers(); faultAtTheEnd(); faultAsked(); break;
      case 13: span(); break;
      case 14: paper(); ruleStays(); break;
      case 15: of(); break;
      case 16: slot(); break;
      case 17: sign(); signOthers(); limits(); limitsByName(); lowestPerson(); limitBelowSigned(); break;
      case 18: back(); break;
      case 19: withdraw(); break;
      case 20: signed(); break;
      case 21: way(); wayHands(); wayTries(); break;
      case 22: wayOf(); break;
      case 23: holders(); break;
      case 24: greatest(); greatestJoined(); greatestTries(); break;
      default: about(); break;
    }
  }

  public static void main(String[] args) {
    for (int number = 1; number <= 25; number++) part(number);
    finish();
  }
}
