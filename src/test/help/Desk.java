/**
 * A PenRoom that tells its latest call, so that a wrong answer can be named, and that counts its calls:
 * beyond the 512th the document promises nothing, so no test may lean on an answer there.
 */
final class Desk {
  private static final int PROMISED = 512;
  private static String latest = "";

  private final PenRoom room = new PenRoom();
  private int calls = 0;

  static String latest() { return latest; }

  int calls() { return calls; }

  private PenRoom with(String name, Object... told) {
    StringBuilder call = new StringBuilder(name).append('(');
    for (int i = 0; i < told.length; i++) call.append(i == 0 ? "" : ", ").append(told[i]);
    latest = call.append(')').toString();
    calls++;
    if (calls > PROMISED) throw new IllegalStateException("a test makes more than 512 calls on one object: " + latest);
    return room;
  }

  int person(int roles) { return with("person", roles).person(roles); }
  boolean roles(int person, int roles) { return with("roles", person, roles).roles(person, roles); }
  boolean away(int person, int from, int to) { return with("away", person, from, to).away(person, from, to); }

  int deputy(int person, int by, int from, int to, int upto) {
    return with("deputy", person, by, from, to, upto).deputy(person, by, from, to, upto);
  }

  boolean end(int deputy) { return with("end", deputy).end(deputy); }
  int acts(int person, int sum, int day) { return with("acts", person, sum, day).acts(person, sum, day); }
  int later(int days) { return with("later", days).later(days); }
  int feed(int a, int b, int c, int d, int e) { return with("feed", a, b, c, d, e).feed(a, b, c, d, e); }
  int cut(int n) { return with("cut", n).cut(n); }
  int rules() { return with("rules").rules(); }
  int fault(int what) { return with("fault", what).fault(what); }
  boolean span(int days) { return with("span", days).span(days); }

  int paper(int kind, int sum, int maker, int place, boolean urgent) {
    return with("paper", kind, sum, maker, place, urgent).paper(kind, sum, maker, place, urgent);
  }

  int of(int paper, int what) { return with("of", paper, what).of(paper, what); }
  int slot(int paper, int slot, int what) { return with("slot", paper, slot, what).slot(paper, slot, what); }

  boolean sign(int paper, int slot, int hand, int name) {
    return with("sign", paper, slot, hand, name).sign(paper, slot, hand, name);
  }

  boolean back(int paper) { return with("back", paper).back(paper); }
  boolean withdraw(int paper) { return with("withdraw", paper).withdraw(paper); }

  long signed(int name, int role, int day, boolean month) {
    return with("signed", name, role, day, month).signed(name, role, day, month);
  }

  int way(int paper) { return with("way", paper).way(paper); }
  int wayOf(int slot, int what) { return with("wayOf", slot, what).wayOf(slot, what); }
  int holders(int paper) { return with("holders", paper).holders(paper); }

  int greatest(int kind, int place, boolean urgent, int maker, int people) {
    return with("greatest", kind, place, urgent, maker, people).greatest(kind, place, urgent, maker, people);
  }

  int about(int what) { return with("about", what).about(what); }
}
