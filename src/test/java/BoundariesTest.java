import java.math.BigInteger;
import java.util.ArrayList;
import java.util.List;

/**
 * The boundary cases that the document names, sentence by sentence: the last number that is as told and the first
 * that is not, empty and full, one past full, of two refusals the first, and that a refused call changes nothing.
 * No object is used for more than 512 calls: a state is made anew for every look at it.
 */
public final class BoundariesTest {
  private static final int NONE = LinenHouse.NONE, BAD = LinenHouse.BAD, NOT = LinenHouse.NOT, FULL = LinenHouse.FULL;
  private static final int NULL = -11, INDEX = -12, CAST = -13, STORE = -14, SIZE = -15;
  private static final int LEAST = Integer.MIN_VALUE, GREATEST = Integer.MAX_VALUE;
  private static final long LONG_BAD = Long.MIN_VALUE + 2;
  private static final String EIGHT = "s0abc;b1bca;d2cab;s3cba;b4bac;d5acb;s4abc;d5cab", TEN = "ab1bc2ca1ba2ac1cb2ab2bc1ac2ca1";
  private static final String[] ORDERS = {"abc", "acb", "bac", "bca", "cab", "cba"};
  private static int wrong = 0, checks = 0;

  private interface State {
    LinenHouse make();
  }

  private interface Act {
    long on(LinenHouse x);
  }

  private interface ActWith {
    long on(LinenHouse x, int v);
  }

  private static void due(String call, long got, long want) {
    checks++;
    if (got == want) return;
    wrong++;
    if (wrong <= 40) System.out.println(call + " answered " + got + ", due is " + want);
  }

  private static void same(String call, List<Long> got, List<Long> want) {
    checks++;
    if (got.equals(want)) return;
    wrong++;
    if (wrong <= 40) System.out.println(call + " was refused, but changed something: " + got + ", before: " + want);
  }

  // ---- states to be refused in

  private static LinenHouse house(String members, String motions) {
    LinenHouse x = new LinenHouse();
    typeAll(x, 0, members);
    typeAll(x, 1, motions);
    return x;
  }

  private static void typeAll(LinenHouse x, int text, String all) {
    for (int i = 0; i < all.length(); i++) x.type(text, all.charAt(i));
  }

  /** Some of everything; sheets 0 to 2 of forms 0 to 2, sheet 3 lost; the latest finding is CAST. */
  private static LinenHouse ordinary() {
    LinenHouse x = house("s0abc;b3bca;d4cab;d4cba;d5abc", "ab1ab2bc1ca2cb1");
    x.fold(1, 2, 0);
    x.fold(3, 0, 5);
    x.jar(2);
    x.seen(0, 0);
    x.seen(7, 3);
    x.weight(1, 5);
    for (int s = 0; s < 3; s++) {
      x.sheet(s, s, 3);
      for (int i = 0; i < 3; i++) x.put(s, s, i, 10 * s + i + 1);
    }
    x.put(0, 1, 0, 0);
    return x;
  }

  /** As much of everything as may be; the latest finding is SIZE. */
  private static LinenHouse full() {
    LinenHouse x = house(EIGHT, TEN);
    for (int k = 0; k < 8; k++) x.fold(k, 7 - k, k % 6);
    for (int k = 0; k < 6; k++) x.jar(k + 2);
    for (int k = 0; k < 8; k++) x.seen(k, k % 4);
    for (int s = 0; s < 4; s++) {
      x.sheet(s, s % 3, 60);
      x.put(s, s % 3, 59, s + 1);
    }
    x.sheet(0, 0, -1);
    return x;
  }

  /** Both texts with a fault. */
  private static LinenHouse faulty() {
    LinenHouse x = ordinary();
    x.type(0, 'x');
    x.type(1, 'x');
    return x;
  }

  private static final State[] STATES = {LinenHouse::new, BoundariesTest::ordinary, BoundariesTest::full, BoundariesTest::faulty};

  // ---- looks at all that an object holds; each spoils the object it looks at

  private static List<Long> lookAtHouse(LinenHouse x) {
    List<Long> all = new ArrayList<>();
    for (int what = 0; what <= 8; what++) all.add((long) x.count(what));
    all.add(x.digest());
    for (int n = 0; n < 10; n++) {
      for (int m = 0; m < 8; m++) all.add((long) x.lies(n, m, 0));
      all.add((long) x.lies(n, 0, 1));
    }
    for (int sort = 0; sort < 3; sort++) all.add((long) x.weight(sort, 0));
    return all;
  }

  private static List<Long> lookAtTexts(LinenHouse x) {
    List<Long> all = new ArrayList<>();
    for (int text = 0; text < 2; text++) {
      for (int left = x.count(2 + text); left > 0; left--) {
        all.add((long) x.fault(text));
        all.add((long) x.undo(text));
      }
    }
    return all;
  }

  private static List<Long> lookAtLists(LinenHouse x) {
    List<Long> all = new ArrayList<>();
    all.add((long) x.forget());
    for (int what = 0; what < 2; what++) {
      for (int left = x.count(4 + what); left > 0; left--) {
        all.add((long) x.back(what));
        all.add(x.digest());
      }
    }
    return all;
  }

  private static List<Long> lookAtSheets(LinenHouse x) {
    List<Long> all = new ArrayList<>();
    for (int s = 0; s < 4; s++) {
      for (int form = 0; form < 3; form++) {
        boolean item = true;
        for (int i = 0; i < 61 && item; i++) {
          all.add((long) x.get(s, form, i));
          item = all.get(all.size() - 1) != LEAST;
        }
        all.add((long) x.count(8));
      }
      all.add((long) x.lose(s));
    }
    return all;
  }

  private static LinenHouse behind(State state, Act act) {
    LinenHouse x = state.make();
    act.on(x);
    return x;
  }

  private static int findingOf(long answer) {
    return answer <= NULL && answer >= SIZE ? (int) (-10 - answer) : 0;
  }

  /** A refused call, with the number it is refused by (that of get, which answers the least int, is told apart). */
  private static void refused(String call, State state, Act act, long want, int finding) {
    LinenHouse x = state.make();
    int before = x.count(8);
    due(call, act.on(x), want);
    due(call + ", then count(8)", x.count(8), finding == 0 ? before : finding);
    List<Long> now = lookAtHouse(behind(state, act)), then = lookAtHouse(state.make());
    now.remove(8);
    then.remove(8);
    same(call, now, then);
    same(call, lookAtTexts(behind(state, act)), lookAtTexts(state.make()));
    same(call, lookAtLists(behind(state, act)), lookAtLists(state.make()));
    same(call, lookAtSheets(behind(state, act)), lookAtSheets(state.make()));
  }

  private static void refused(String call, State state, Act act, long want) {
    refused(call, state, act, want, findingOf(want));
  }

  /** Refused alike in every state. */
  private static void bad(String call, Act act, long want) {
    for (State state : STATES) refused(call, state, act, want, 0);
  }

  /** The first numbers beside lowest .. highest, and the farthest ones, are BAD in every state. */
  private static void badBeside(String call, int lowest, int highest, ActWith act, long want) {
    for (int v : new int[] {lowest - 1, highest + 1, LEAST, GREATEST}) bad(call + " with " + v, x -> act.on(x, v), want);
  }

  // ---- promise 1

  /** No MEMBERS, no MOTIONS; all SHEETS are LOST; 3, 2, 1 at first; count() 8: 0 before any. */
  private static void aNewObject() {
    LinenHouse x = new LinenHouse();
    for (int what = 0; what <= 8; what++) due("1 count(" + what + ")", x.count(what), 0);
    for (int n = 0; n < 10; n++) due("1 motion(" + n + ", 0)", x.motion(n, 0), NONE);
    due("1 member(0, 0)", x.member(0, 0), BAD);
    for (int sort = 0; sort < 3; sort++) due("1 weight(" + sort + ", 9)", x.weight(sort, 9), 3 - sort);
    for (int s = 0; s < 4; s++) {
      State fresh = LinenHouse::new;
      int sheet = s;
      refused("1 lose(" + s + ")", fresh, y -> y.lose(sheet), NULL);
      refused("1 read(" + s + ")", fresh, y -> y.read(sheet), NULL);
      refused("1 write(" + s + ")", fresh, y -> y.write(sheet), NULL);
      refused("1 put(" + s + ", 0, 0, 1)", fresh, y -> y.put(sheet, 0, 0, 1), NULL);
      refused("1 get(" + s + ", 0, 0)", fresh, y -> y.get(sheet, 0, 0), LEAST, 1);
      refused("1 copy(" + s + ", 0, " + s + ", 0, 0)", fresh, y -> y.copy(sheet, 0, sheet, 0, 0), NULL);
    }
  }

  // ---- promises 2 to 4

  /** Texts 0 and 1; a byte is 0 to 255; up to 47 and up to 30 bytes. BAD; FULL. */
  private static void type() {
    badBeside("2 type(text, 97)", 0, 1, (x, v) -> x.type(v, 97), BAD);
    for (int text = 0; text < 2; text++) {
      int t = text, most = text == 0 ? 47 : 30;
      badBeside("2 type(" + t + ", b)", 0, 255, (x, v) -> x.type(t, v), BAD);
      for (int b : new int[] {0, 1, 127, 128, 254, 255}) due("2 type(" + t + ", " + b + ")", new LinenHouse().type(t, b), 1);
      LinenHouse x = new LinenHouse();
      for (int n = 1; n <= most; n++) due("2 type(" + t + ", 255), the " + n + "th", x.type(t, 255), n);
      due("2 type(" + t + ", 0), past full", x.type(t, 0), FULL);
      due("2 count of a full text", x.count(2 + t), most);
      due("2 count of the other one", x.count(3 - t), 0);
      due("2 type into the other one", x.type(1 - t, 97), 1);
      due("4 undo of a full text", x.undo(t), most - 1);
      due("2 type, full again", x.type(t, 7), most);
      due("2 type, past full again", x.type(t, 7), FULL);
      refused("2 type(" + t + ", 97), full", BoundariesTest::full, y -> y.type(t, 97), FULL);
      refused("2 type(" + t + ", 0), full", BoundariesTest::full, y -> y.type(t, 0), FULL);
      refused("2 type(" + t + ", 256), full: BAD ahead of FULL", BoundariesTest::full, y -> y.type(t, 256), BAD);
    }
  }

  /** A text is empty: how many bytes it had. BAD. */
  private static void wipe() {
    badBeside("3 wipe(text)", 0, 1, (x, v) -> x.wipe(v), BAD);
    LinenHouse x = full();
    due("3 wipe(0), full", x.wipe(0), 47);
    due("3 count(3), kept", x.count(3), 30);
    due("3 wipe(1), full", x.wipe(1), 30);
    for (int text = 0; text < 2; text++) {
      due("3 wipe(" + text + "), empty", x.wipe(text), 0);
      due("3 fault(" + text + "), empty", x.fault(text), NONE);
      due("3 count of members or motions", x.count(text), 0);
      due("3 count of bytes", x.count(2 + text), 0);
      due("2 type behind a wipe", x.type(text, 97), 1);
    }
    due("3 count(4), kept", x.count(4), 8);
    due("3 count(5), kept", x.count(5), 6);
    due("3 count(7), kept", x.count(7), 8);
  }

  /** The last byte is undone: how many are left. BAD; NOT: it is empty. */
  private static void undo() {
    badBeside("4 undo(text)", 0, 1, (x, v) -> x.undo(v), BAD);
    for (int text = 0; text < 2; text++) {
      int t = text;
      refused("4 undo(" + t + "), empty", LinenHouse::new, x -> x.undo(t), NOT);
      State emptied = () -> behind(BoundariesTest::full, x -> x.wipe(t));
      refused("4 undo(" + t + "), emptied", emptied, x -> x.undo(t), NOT);
      LinenHouse x = full();
      for (int left = (t == 0 ? 47 : 30) - 1; left >= 0; left--) due("4 undo(" + t + ")", x.undo(t), left);
      due("4 undo(" + t + "), past empty", x.undo(t), NOT);
      due("4 fault(" + t + ")", x.fault(t), NONE);
    }
    LinenHouse back = behind(BoundariesTest::faulty, x -> x.undo(0));
    due("4 members are as they were behind an undo", back.count(0), 5);
    due("4 undo(1)", back.undo(1), 15);
    due("4 digest behind both", back.digest(), ordinary().digest());
  }

  // ---- promise 5

  private static boolean membersGoOn(int place, int b, String before) {
    switch (place % 6) {
      case 0: return b == 's' || b == 'b' || b == 'd';
      case 1: return b >= '0' && b <= '5';
      case 5: return b == ';';
      default: return b >= 'a' && b <= 'c' && before.substring(place - place % 6 + 2).indexOf(b) < 0;
    }
  }

  private static boolean motionsGoOn(int place, int b, String before) {
    switch (place % 3) {
      case 0: return b >= 'a' && b <= 'c';
      case 1: return b >= 'a' && b <= 'c' && before.charAt(place - 1) != b;
      default: return b == '1' || b == '2';
    }
  }

  /** The place of the first byte with which it cannot go on, for every byte at every place. */
  private static void faultOfEveryByte() {
    for (int text = 0; text < 2; text++) {
      String well = text == 0 ? EIGHT : TEN;
      for (int place = 0; place < well.length(); place++) {
        String before = well.substring(0, place);
        LinenHouse x = null;
        int step = text == 0 ? 6 : 3, lastOfOne = text == 0 ? 4 : 2;
        for (int b = 0; b < 256; b++) {
          if (b % 64 == 0) {
            x = new LinenHouse();
            typeAll(x, text, before);
          }
          boolean goesOn = text == 0 ? membersGoOn(place, b, before) : motionsGoOn(place, b, before);
          int ended = place % step == lastOfOne ? NONE : place + 1;
          String call = "5 fault(" + text + ") of " + before + " and byte " + b;
          x.type(text, b);
          due(call, x.fault(text), goesOn ? ended : place);
          due(call + ", how many", x.count(text), goesOn && ended == NONE ? place / step + 1 : 0);
          x.undo(text);
        }
      }
    }
  }

  /** An empty one is well; of one that is not ended, its end; the first fault counts, whatever comes behind it. */
  private static void faultAtTheEnd() {
    badBeside("5 fault(text)", 0, 1, (x, v) -> x.fault(v), BAD);
    for (int text = 0; text < 2; text++) {
      due("5 fault(" + text + "), empty", new LinenHouse().fault(text), NONE);
      String well = text == 0 ? EIGHT : TEN;
      LinenHouse x = new LinenHouse();
      for (int n = 1; n <= well.length(); n++) {
        x.type(text, well.charAt(n - 1));
        boolean ended = text == 0 ? n % 6 == 5 : n % 3 == 0;
        int many = text == 0 ? (n + 1) / 6 : n / 3;
        due("5 fault(" + text + ") of " + n + " bytes", x.fault(text), ended ? NONE : n);
        due("5 count(" + text + ") of " + n + " bytes", x.count(text), ended ? many : 0);
        due("5 count(" + (2 + text) + ") of " + n + " bytes", x.count(2 + text), n);
      }
      // A fault at a place stays the fault, though the bytes behind it are well, or another fault follows.
      for (int place = 0; place < well.length(); place++) {
        LinenHouse y = new LinenHouse();
        typeAll(y, text, well.substring(0, place) + "!" + well.substring(place + 1));
        due("5 fault(" + text + ") of ! at " + place, y.fault(text), place);
        y.undo(text);
        y.type(text, '!');
        due("5 fault(" + text + ") of ! at " + place + " and at the end", y.fault(text), place);
      }
    }
    // 47 bytes hold eight members, so the first byte of a ninth, like the ; ahead of it, is FULL.
    refused("5 type(0, ';') behind eight", () -> house(EIGHT, TEN), x -> x.type(0, ';'), FULL);
    refused("5 type(0, 's') behind eight", () -> house(EIGHT, TEN), x -> x.type(0, 's'), FULL);
    refused("5 type(1, 'a') behind ten", () -> house(EIGHT, TEN), x -> x.type(1, 'a'), FULL);
  }

  /** A letter that is told again. */
  private static void faultOfALetterToldAgain() {
    String[] members = {"s0aa", "s0bb", "s0cc", "s0aba", "s0abb", "s0aca", "s0acc", "s0baa", "s0bab", "s0bcb", "s0bcc", "s0caa", "s0cac", "s0cbb", "s0cbc"};
    for (String all : members) {
      LinenHouse x = house(all + "c;b0abc", "");
      due("5 fault(0) of " + all, x.fault(0), all.length() - 1);
    }
    for (String letter : new String[] {"a", "b", "c"}) due("5 fault(1), " + letter + " twice", house("", "ab1" + letter + letter + "1").fault(1), 4);
    // The same letters may be told again in another member, another motion.
    LinenHouse again = house("s0abc;s0abc", "ab1ab1");
    due("5 fault(0), the same member", again.fault(0), NONE);
    due("5 fault(1), the same motion", again.fault(1), NONE);
  }

  /** With a FAULT a text is as if it was empty. */
  private static void faultEmpties() {
    LinenHouse x = ordinary();
    x.type(0, 'x');
    int[] counts = {0, 5, 30, 15, 2, 1, 0, 2, 3};
    for (int what = 0; what <= 8; what++) due("5 count(" + what + "), members with a fault", x.count(what), counts[what]);
    due("5 member(0, 0)", x.member(0, 0), BAD);
    due("5 vote(0, 2)", x.vote(0, 2), NONE);
    due("5 motion(0, 0)", x.motion(0, 0), 0);
    due("5 told()", x.told(), 0);
    due("5 pleased()", x.pleased(), NONE);
    LinenHouse y = ordinary();
    y.type(1, 'x');
    int[] others = {5, 0, 29, 16, 2, 1, 11, 2, 3};
    for (int what = 0; what <= 8; what++) due("5 count(" + what + "), motions with a fault", y.count(what), others[what]);
    due("5 motion(0, 0)", y.motion(0, 0), NONE);
    due("5 vote(0, 0)", y.vote(0, 0), NONE);
    due("5 house(9)", y.house(9), NONE);
    due("5 lies(0, 0, 0)", y.lies(0, 0, 0), 0);
    due("5 lies(0, 0, 2)", y.lies(0, 0, 2), NONE);
  }

  // ---- promises 6 to 8

  /** No such MEMBER, whatever their number; what 0 to 4. */
  private static void member() {
    badBeside("6 member(0, what)", 0, 4, (x, v) -> x.member(0, v), BAD);
    badBeside("6 member(member, 0)", 0, 7, (x, v) -> x.member(v, 0), BAD);
    badBeside("6 member(member, 4)", 0, 7, (x, v) -> x.member(v, 4), BAD);
    for (int many = 0; many <= 8; many++) {
      int told = many;
      State some = () -> house(EIGHT.substring(0, Math.max(0, 6 * told - 1)), "");
      due("6 count(0)", some.make().count(0), many);
      if (many > 0) due("6 member(" + (many - 1) + ", 1) of " + many, some.make().member(many - 1, 1), EIGHT.charAt(6 * many - 5) - '0');
      refused("6 member(" + many + ", 1) of " + many, some, x -> x.member(told, 1), BAD);
    }
    String[] sorts = {"s", "b", "d"};
    for (int sort = 0; sort < 3; sort++) {
      for (int shelf = 0; shelf < 6; shelf++) {
        for (String order : ORDERS) {
          LinenHouse x = house(sorts[sort] + shelf + order, "");
          due("6 sort", x.member(0, 0), sort);
          due("6 shelf", x.member(0, 1), shelf);
          for (int k = 0; k < 3; k++) due("6 would have " + k, x.member(0, 2 + k), order.charAt(k) - 'a');
        }
      }
    }
  }

  /** NIGHTS are 0 to 9; NONE: there is no MOTION; what 0 to 2. */
  private static void motion() {
    badBeside("7 motion(night, 0)", 0, 9, (x, v) -> x.motion(v, 0), BAD);
    badBeside("7 motion(0, what)", 0, 2, (x, v) -> x.motion(0, v), BAD);
    badBeside("7 motion(9, what)", 0, 2, (x, v) -> x.motion(9, v), BAD);
    for (int many = 0; many <= 10; many++) {
      LinenHouse x = house("", TEN.substring(0, 3 * many));
      for (int n = 0; n < 10; n++) {
        boolean put = n < many;
        due("7 motion(" + n + ", 0) of " + many, x.motion(n, 0), put ? TEN.charAt(3 * n) - 'a' : NONE);
        due("7 motion(" + n + ", 1) of " + many, x.motion(n, 1), put ? TEN.charAt(3 * n + 1) - 'a' : NONE);
        due("7 motion(" + n + ", 2) of " + many, x.motion(n, 2), put ? TEN.charAt(3 * n + 2) - '0' : NONE);
      }
    }
  }

  /** Sorts 0 to 2; WEIGHTS 0 to 9. */
  private static void weight() {
    badBeside("8 weight(sort, 0)", 0, 2, (x, v) -> x.weight(v, 0), BAD);
    for (int sort = 0; sort < 3; sort++) {
      int s = sort;
      badBeside("8 weight(" + sort + ", v)", 0, 9, (x, v) -> x.weight(s, v), BAD);
      LinenHouse x = new LinenHouse();
      due("8 weight(" + sort + ", 9)", x.weight(sort, 9), 3 - sort);
      due("8 weight(" + sort + ", 0)", x.weight(sort, 0), 9);
      due("8 weight(" + sort + ", 9)", x.weight(sort, 9), 0);
      due("8 weight(" + sort + ", 9)", x.weight(sort, 9), 9);
      for (int other = 0; other < 3; other++) if (other != sort) due("8 weight(" + other + ", 0), its own", x.weight(other, 0), 3 - other);
    }
    LinenHouse x = house("s0abc;s0abc;s0abc;s0abc;s0abc;s0abc;s0abc;s0abc", "ab2ba2");
    x.weight(0, 9);
    due("8 count(6), eight by 9", x.count(6), 72);
    due("8 vote(0, 1), eight by 9", x.vote(0, 1), 72);
    due("8 vote(0, 0), members, though by weight", x.vote(0, 0), 8);
    due("8 vote(1, 1), eight by 9", x.vote(1, 1), 72);
    x.weight(0, 0);
    due("8 count(6), eight by 0", x.count(6), 0);
    due("8 vote(0, 1), eight by 0", x.vote(0, 1), 0);
    due("8 vote(0, 2), the speaker tells", x.vote(0, 2), 0);
    due("8 told()", x.told(), 2);
  }

  // ---- promises 9 to 12

  /** FOLDS, 8 at most: NIGHT 0 to 9, MEMBER 0 to 7, SHELF 0 to 5. BAD; FULL. */
  private static void fold() {
    badBeside("9 fold(night, 0, 0)", 0, 9, (x, v) -> x.fold(v, 0, 0), BAD);
    badBeside("9 fold(9, member, 5)", 0, 7, (x, v) -> x.fold(9, v, 5), BAD);
    badBeside("9 fold(0, 7, shelf)", 0, 5, (x, v) -> x.fold(0, 7, v), BAD);
    LinenHouse x = new LinenHouse();
    int[][] edges = {{0, 0, 0}, {9, 0, 0}, {0, 7, 0}, {0, 0, 5}, {9, 7, 0}, {9, 0, 5}, {0, 7, 5}, {9, 7, 5}};
    for (int k = 0; k < 8; k++) due("9 fold, the " + (k + 1) + "th", x.fold(edges[k][0], edges[k][1], edges[k][2]), k + 1);
    due("9 fold(0, 0, 0), the ninth", x.fold(0, 0, 0), FULL);
    due("9 count(4)", x.count(4), 8);
    refused("9 fold(5, 3, 2), full", BoundariesTest::full, y -> y.fold(5, 3, 2), FULL);
    refused("9 fold(0, 0, 0), full", BoundariesTest::full, y -> y.fold(0, 0, 0), FULL);
    due("11 back(0), full", x.back(0), 7);
    due("9 fold, full again", x.fold(0, 0, 0), 8);
    // Ahead of NIGHT 0: on all; ahead of NIGHT 9: on that alone; it stays there.
    for (int night = 0; night < 10; night++) {
      LinenHouse y = house(EIGHT, "");
      y.fold(night, 0, 5);
      y.fold(night, 7, 0);
      for (int n = 0; n < 10; n++) {
        due("9 lies(" + n + ", 0, 0), folded ahead of " + night, y.lies(n, 0, 0), n < night ? 0 : 5);
        due("9 lies(" + n + ", 7, 0), folded ahead of " + night, y.lies(n, 7, 0), n < night ? 5 : 0);
        due("9 lies(" + n + ", 6, 0), not folded", y.lies(n, 6, 0), 4);
      }
    }
    LinenHouse late = new LinenHouse();
    due("9 fold(0, 7, 1), ahead of the member's text", late.fold(0, 7, 1), 1);
    typeAll(late, 0, EIGHT);
    due("9 lies(0, 7, 0)", late.lies(0, 7, 0), 1);
  }

  /** JARS, 6 at most: NIGHT 0 to 9. BAD; FULL. */
  private static void jar() {
    badBeside("10 jar(night)", 0, 9, (x, v) -> x.jar(v), BAD);
    LinenHouse x = house("s0abc", "");
    int[] nights = {0, 9, 9, 3, 3, 3};
    for (int k = 0; k < 6; k++) due("10 jar, the " + (k + 1) + "th", x.jar(nights[k]), k + 1);
    due("10 jar(1), the seventh", x.jar(1), FULL);
    due("10 count(5)", x.count(5), 6);
    int[] warm = {2, 5, 5, 2, 5, 5, 5, 5, 5, 2};
    for (int n = 0; n < 10; n++) due("10 lies(" + n + ", 0, 1)", x.lies(n, 0, 1), warm[n]);
    refused("10 jar(0), full", BoundariesTest::full, y -> y.jar(0), FULL);
    refused("10 jar(9), full", BoundariesTest::full, y -> y.jar(9), FULL);
    due("11 back(1), full", x.back(1), 5);
    due("10 jar(1), full again", x.jar(1), 6);
    due("10 lies(3, 0, 1), two jars are left", x.lies(3, 0, 1), 2);
    due("10 lies(1, 0, 1)", x.lies(1, 0, 1), 2);
  }

  /** The last FOLD (0), JAR (1) is undone. BAD; NOT: there is none. */
  private static void back() {
    badBeside("11 back(what)", 0, 1, (x, v) -> x.back(v), BAD);
    for (int what = 0; what < 2; what++) {
      int w = what;
      refused("11 back(" + what + "), none", LinenHouse::new, x -> x.back(w), NOT);
      LinenHouse x = full();
      for (int left = (what == 0 ? 8 : 6) - 1; left >= 0; left--) due("11 back(" + what + ")", x.back(what), left);
      due("11 back(" + what + "), past none", x.back(what), NOT);
      due("11 count of the other ones", x.count(5 - what), what == 0 ? 6 : 8);
      State only = () -> {
        LinenHouse y = new LinenHouse();
        if (w == 0) y.jar(0);
        else y.fold(0, 0, 0);
        return y;
      };
      refused("11 back(" + what + "), but the other is there", only, y -> y.back(w), NOT);
    }
  }

  private static LinenHouse sheetOf(int form, int... items) {
    LinenHouse x = house(EIGHT, TEN);
    x.sheet(1, form, items.length);
    for (int i = 0; i < items.length; i++) x.put(1, form, i, items[i]);
    return x;
  }

  private static void readOf(String call, LinenHouse x, int many, int folds) {
    due("12 read(1), " + call, x.read(1), many);
    due("12 count(4), " + call, x.count(4), folds);
  }

  /** Three items for each, as many as are whole, as long as each may be. BAD; NULL. */
  private static void read() {
    badBeside("12 read(s)", 0, 3, (x, v) -> x.read(v), BAD);
    refused("12 read(3), lost", BoundariesTest::ordinary, x -> x.read(3), NULL);
    refused("12 read(0), lost again", () -> behind(BoundariesTest::full, x -> x.lose(0)), x -> x.read(0), NULL);
    for (int items = 0; items <= 60; items++) {
      int many = Math.min(8, items / 3);
      for (int form = 0; form < 3; form++) readOf(items + " items", sheetOf(form, new int[items]), many, many);
    }
    int[][] whole = {{0, 0, 0}, {9, 0, 0}, {0, 7, 0}, {0, 0, 5}, {9, 7, 5}};
    int[][] not = {{-1, 0, 0}, {10, 0, 0}, {0, -1, 0}, {0, 8, 0}, {0, 0, -1}, {0, 0, 6}};
    for (int form = 0; form < 3; form++) {
      for (int[] f : whole) readOf("as told", sheetOf(form, f), 1, 1);
      for (int[] f : not) {
        readOf("the first may not be", sheetOf(form, f[0], f[1], f[2], 1, 1, 1), 0, 0);
        readOf("the second may not be", sheetOf(form, 1, 1, 1, f[0], f[1], f[2], 2, 2, 2), 1, 1);
      }
    }
    // What a form has of a number is what is read.
    readOf("bytes, 256", sheetOf(0, 256, 256, 256), 1, 1);
    readOf("shorts, 256", sheetOf(1, 256, 0, 0), 0, 0);
    readOf("shorts, 65536", sheetOf(1, 65536, 65536, 65536), 1, 1);
    readOf("ints, 65536", sheetOf(2, 65536, 0, 0), 0, 0);
    readOf("ints, the least", sheetOf(2, LEAST, 0, 0), 0, 0);
    readOf("ints, the greatest", sheetOf(2, 0, GREATEST, 0), 0, 0);
    for (int folds = 0; folds <= 8; folds++) {
      LinenHouse x = sheetOf(0, new int[9]);
      for (int k = 0; k < folds; k++) x.fold(9, 0, 0);
      int room = Math.min(3, 8 - folds);
      readOf("behind " + folds, x, room, folds + room);
    }
    LinenHouse once = sheetOf(0, 0, 0, 4, 3, 7, 1);
    readOf("two", once, 2, 2);
    due("12 lies(0, 0, 0)", once.lies(0, 0, 0), 4);
    due("12 lies(2, 7, 0)", once.lies(2, 7, 0), 5);
    due("12 lies(3, 7, 0)", once.lies(3, 7, 0), 1);
    due("12 get(1, 0, 2), the sheet is as it was", once.get(1, 0, 2), 4);
    due("12 count(8), no finding", once.count(8), 0);
  }

  // ---- promises 13 to 17

  /** NIGHTS 0 to 9, with a MOTION or without; no such MEMBER; what 0 to 2. */
  private static void lies() {
    badBeside("13 lies(night, 0, 0)", 0, 9, (x, v) -> x.lies(v, 0, 0), BAD);
    badBeside("13 lies(0, member, 0)", 0, 7, (x, v) -> x.lies(0, v, 0), BAD);
    badBeside("13 lies(0, 0, what)", 0, 2, (x, v) -> x.lies(0, 0, v), BAD);
    refused("13 lies(9, 0, 2), no member: BAD ahead of NONE", LinenHouse::new, x -> x.lies(9, 0, 2), BAD);
    refused("13 lies(9, 5, 2), no such member", BoundariesTest::ordinary, x -> x.lies(9, 5, 2), BAD);
    for (int many = 0; many <= 10; many++) {
      LinenHouse x = house("s0abc;d5abc", TEN.substring(0, 3 * many));
      for (int n = 0; n < 10; n++) {
        due("13 lies(" + n + ", 1, 0)", x.lies(n, 1, 0), 5);
        due("13 lies(" + n + ", 0, 1)", x.lies(n, 0, 1), 5);
        boolean first = n < many && TEN.charAt(3 * n) < TEN.charAt(3 * n + 1);
        due("13 lies(" + n + ", 1, 2) of " + many, x.lies(n, 1, 2), n >= many ? NONE : first ? 0 : 1);
      }
    }
  }

  /** WARM by 5 less its SHELF, less 3 on one with a JAR (or more of these), 0 at least; by 2 or more it LEANS by itself. */
  private static void warm() {
    int[] without = {5, 4, 3, 2, 1, 0}, with = {2, 1, 0, 0, 0, 0};
    for (int shelf = 0; shelf < 6; shelf++) {
      // Member 0 alone would have b; two that lie with it would have a.
      LinenHouse x = house("d" + shelf + "bac;d" + shelf + "abc;d" + shelf + "acb", "ab1ab1ab1");
      x.jar(1);
      x.jar(2);
      x.jar(2);
      int[] warm = {without[shelf], with[shelf], with[shelf]};
      for (int n = 0; n < 3; n++) {
        due("13 lies(" + n + ", 0, 1) on " + shelf, x.lies(n, 0, 1), warm[n]);
        due("13 lies(" + n + ", 0, 2) on " + shelf, x.lies(n, 0, 2), warm[n] >= 2 ? 1 : 0);
      }
    }
    // As most, itself, too: one other outweighs nobody; of like many as itself; alone as itself.
    LinenHouse two = house("d5bac;d5abc;d4bac", "ab1ba1");
    int[] votes = {1, 0, 1};
    for (int m = 0; m < 3; m++) due("13 lies(0, " + m + ", 2), like many", two.lies(0, m, 2), votes[m]);
    for (int m = 0; m < 3; m++) due("13 lies(1, " + m + ", 2), like many", two.lies(1, m, 2), 1 - votes[m]);
    // Only those that lie on its shelf, and as they would have it, not as they vote.
    LinenHouse near = house("d5bac;d5abc;d5abc;d4bac;d4bac;d4abc", "ab1");
    int[] cold = {0, 0, 0, 1, 1, 1};
    for (int m = 0; m < 6; m++) due("13 lies(0, " + m + ", 2), two shelves", near.lies(0, m, 2), cold[m]);
  }

  /** What 0 to 3; NONE: there is no MOTION, or no MEMBER. BAD. */
  private static void vote() {
    badBeside("14 vote(night, 0)", 0, 9, (x, v) -> x.vote(v, 0), BAD);
    badBeside("14 vote(0, what)", 0, 3, (x, v) -> x.vote(0, v), BAD);
    badBeside("14 vote(9, what)", 0, 3, (x, v) -> x.vote(9, v), BAD);
    for (int what = 0; what < 4; what++) {
      due("14 vote(0, " + what + "), no member", house("", TEN).vote(0, what), NONE);
      due("14 vote(0, " + what + "), no motion", house(EIGHT, "").vote(0, what), NONE);
      due("14 vote(1, " + what + "), one motion", house(EIGHT, "ab1").vote(1, what), NONE);
      due("14 vote(9, " + what + "), nine motions", house(EIGHT, TEN.substring(0, 27)).vote(9, what), NONE);
    }
    int[] one = {1, 1, 0, 0};
    for (int what = 0; what < 4; what++) due("14 vote(9, " + what + "), ten", house("d5abc", "ab1ab1ab1ab1ab1ab1ab1ab1ab1ac1").vote(9, what), one[what]);
    int[] none = {0, 1, 0, 0};
    for (int what = 0; what < 4; what++) due("14 vote(0, " + what + "), nobody for the first", house("s0abc", "ba1").vote(0, what), none[what]);
    // Of like many the least member on the highest shelf tells: here the last one, then, folded, the first.
    LinenHouse x = house("s1abc;s1abc;s1abc;s1abc;s1bac;s1bac;s1bac;s0bac", "ab1ab1");
    x.fold(1, 0, 0);
    int[][] tie = {{4, 0, 1, 7}, {4, 0, 0, 0}};
    for (int n = 0; n < 2; n++) for (int what = 0; what < 4; what++) due("14 vote(" + n + ", " + what + "), like many", x.vote(n, what), tie[n][what]);
    LinenHouse low = house("d5abc;d5bac", "ba1");
    due("14 vote(0, 3), all on the lowest shelf", low.vote(0, 3), 0);
    due("14 vote(0, 2), all on the lowest shelf", low.vote(0, 2), 0);
  }

  /** THE HOUSE is behind a NIGHT what CARRIED last up to it; NONE: nothing yet. */
  private static void houseBehind() {
    badBeside("15 house(night)", 0, 9, (x, v) -> x.house(v), BAD);
    for (int many = 0; many <= 10; many++) {
      LinenHouse x = house("s0abc", "bc1ca1cb2ba1cb1ca2bc1ab2bc1ac1".substring(0, 3 * many));
      int[] carried = {1, 0, 1, 0, 1, 0, 1, 0, 1, 0};
      for (int n = 0; n < 10; n++) due("15 house(" + n + ") of " + many, x.house(n), many == 0 ? NONE : carried[Math.min(n, many - 1)]);
    }
    for (int n = 0; n < 10; n++) due("15 house(" + n + "), no members", house("", TEN).house(n), NONE);
  }

  /** TOLD: from no MOTION to all. PLEASED: of like ones the least; NONE. */
  private static void toldAndPleased() {
    due("16 told(), nothing", new LinenHouse().told(), 0);
    due("16 told(), no members", house("", TEN).told(), 0);
    due("16 told(), one member of weight", house("s0abc", TEN).told(), 0);
    LinenHouse all = house("s0abc;s0cba", TEN);
    due("16 told(), all ten", all.told(), 10);
    due("17 pleased(), the speaker", all.pleased(), 0);
    LinenHouse again = house("s0abc;s0bac;s0bca", "ab1bc1");
    for (int k = 0; k < 9; k++) due("17 pleased(), again and again", again.pleased(), 1);
    due("17 pleased(), nothing", new LinenHouse().pleased(), NONE);
    due("17 pleased(), no members", house("", TEN).pleased(), NONE);
    due("17 pleased(), the last of eight", house("s0abc;s0abc;s0abc;s0bca;s0bca;s0bca;s0cba;s0bac", "ab1ac1").pleased(), 7);
    due("17 pleased(), all alike", house("s0abc;s0abc;s0abc;s0abc;s0abc;s0abc;s0abc;s0abc", TEN).pleased(), 0);
  }

  // ---- promises 18 to 22

  private static void liftOf(String call, LinenHouse x, int night, int many, int first, int second) {
    due("18 lift(" + night + ", NONE), " + call, x.lift(night, NONE), many);
    due("18 lift(" + night + ", 0), " + call, x.lift(night, 0), first);
    due("18 lift(" + night + ", 1), " + call, x.lift(night, 1), second);
  }

  /** i is NONE, 0 or 1; NONE also where nothing CARRIES. BAD. */
  private static void lift() {
    badBeside("18 lift(night, NONE)", 0, 9, (x, v) -> x.lift(v, NONE), BAD);
    badBeside("18 lift(0, i)", -1, 1, (x, v) -> x.lift(0, v), BAD);
    badBeside("18 lift(9, i)", -1, 1, (x, v) -> x.lift(9, v), BAD);
    liftOf("nothing", new LinenHouse(), 0, NONE, NONE, NONE);
    liftOf("no member", house("", TEN), 9, NONE, NONE, NONE);
    liftOf("no motion", house(EIGHT, TEN.substring(0, 27)), 9, NONE, NONE, NONE);
    // Two of those for a away leave two and two, who lean by themselves (5 for b, 9 for a); three leave one and two.
    LinenHouse three = house("s5abc;d5abc;b5bac;b5abc;s5bac;s5abc", "ab2");
    liftOf("three would be needed", three, 0, NONE, NONE, NONE);
    due("14 vote(0, 2)", three.vote(0, 2), 0);
    for (int m : new int[] {0, 1, 3}) three.fold(0, m, 0);
    due("14 vote(0, 2), three came up", three.vote(0, 2), 1);
    liftOf("one member", house("d5abc", "ab1"), 0, NONE, NONE, NONE);
    liftOf("the first pair", house("s5bac;s5bac;d5abc;d5abc;d5abc;d5abc;d5abc;d5abc", "ab2"), 0, 2, 0, 1);
    liftOf("the last pair", house("d5abc;d5abc;d5abc;d5abc;d5abc;d5abc;s5bac;s5bac", "ab2"), 0, 2, 6, 7);
    liftOf("the ends", house("s5bac;d5abc;d5abc;d5abc;d5abc;d5abc;d5abc;s5bac", "ab2"), 0, 2, 0, 7);
    liftOf("too little weight", house("d5abc;d5abc;d5abc;d5abc;d5abc;d5abc;b5abc;s5bac", "ba2"), 0, NONE, NONE, NONE);
    LinenHouse last = house("d5abc;d5abc;d5abc;d5abc;s5bac", "ab1ab1ab1ab1ab1ab1ab1ab1ab1ab2");
    last.weight(0, 4);
    liftOf("the last of five, by like many", last, 9, 1, 4, NONE);
    last.weight(0, 3);
    liftOf("by one too few", last, 9, NONE, NONE, NONE);
    // Behind all folds: the fold of the same night does not bring it down again.
    LinenHouse folded = house("d5abc;d0bac", "ab1");
    folded.fold(0, 1, 0);
    folded.fold(0, 0, 5);
    liftOf("behind a fold", folded, 0, 1, 0, NONE);
    due("18 lies(0, 0, 0), as it was", folded.lies(0, 0, 0), 5);
  }

  /** AGENDA for one (0 to 2); NONE. BAD. */
  private static void agenda() {
    badBeside("19 agenda(one)", 0, 2, (x, v) -> x.agenda(v), BAD);
    for (int one = 0; one < 3; one++) {
      due("19 agenda(" + one + "), no members", house("", TEN).agenda(one), NONE);
      for (int k = 0; k < 6; k++) {
        int best = ORDERS[k].charAt(0) - 'a';
        due("19 agenda(" + one + "), one member, " + ORDERS[k], house("s0" + ORDERS[k], "").agenda(one), one == best ? 0 : NONE);
      }
    }
    // As at first, without jars, by members, though folds, jars and weights would have it otherwise.
    LinenHouse x = house("s0abc;d0bac;d0bac", "");
    for (int m = 0; m < 3; m++) x.fold(0, m, 5);
    for (int n = 0; n < 6; n++) x.jar(n);
    due("19 agenda(1), two of three", x.agenda(1), 0);
    due("19 agenda(0), one of three", x.agenda(0), NONE);
    for (int k = 0; k < 6 * 6 * 6 * 6; k++) agendaOf(ORDERS[k % 6], ORDERS[k / 6 % 6], ORDERS[k / 36 % 6], ORDERS[k / 216]);
  }

  /** All warm; member 2 is the speaker. */
  private static void agendaOf(String... orders) {
    String members = "s1" + orders[0] + ";s2" + orders[1] + ";s0" + orders[2] + ";s0" + orders[3];
    int[] want = {NONE, NONE, NONE};
    String[] pairs = {"ab", "ac", "bc"}, thirds = {"c", "b", "a"};
    for (int pair = 2; pair >= 0; pair--) {
      String then = better(orders, pairs[pair]);
      want[better(orders, then + thirds[pair]).charAt(0) - 'a'] = pair;
    }
    LinenHouse x = house(members, "");
    for (int one = 0; one < 3; one++) due("19 agenda(" + one + ") of " + members, x.agenda(one), want[one]);
  }

  private static String better(String[] orders, String pair) {
    int lead = most(orders, pair);
    if (lead == 0) lead = most(new String[] {orders[2]}, pair);
    return pair.substring(lead > 0 ? 0 : 1).substring(0, 1);
  }

  private static void powerOf(String call, LinenHouse x, int member, long above, long below) {
    due("20 power(" + member + ", 0), " + call, x.power(member, 0), above);
    due("20 power(" + member + ", 1), " + call, x.power(member, 1), below);
  }

  /** No more than half, and with its own more; lowest terms (0 by 1). BAD, as the least long. */
  private static void power() {
    badBeside("20 power(member, 0)", 0, 7, (x, v) -> x.power(v, 0), LONG_BAD);
    badBeside("20 power(0, what)", 0, 1, (x, v) -> x.power(0, v), LONG_BAD);
    refused("20 power(5, 1), no such member", BoundariesTest::ordinary, x -> x.power(5, 1), LONG_BAD);
    powerOf("one", house("d0abc", ""), 0, 1, 1);
    LinenHouse nothing = house("d0abc", "");
    nothing.weight(2, 0);
    powerOf("one of no weight", nothing, 0, 0, 1);
    // Half alone does not do, half ahead still lets it turn: each of two alike turns as the second.
    for (int m = 0; m < 2; m++) powerOf("two alike", house("d0abc;d0abc", ""), m, 1, 2);
    LinenHouse half = house("s0abc;b0abc;d0abc", "");
    powerOf("3 of 6", half, 0, 2, 3);
    powerOf("2 of 6", half, 1, 1, 6);
    powerOf("1 of 6", half, 2, 1, 6);
    half.weight(0, 4);
    powerOf("4 of 7", half, 0, 1, 1);
    powerOf("2 of 7", half, 1, 0, 1);
    half.weight(2, 0);
    half.weight(0, 2);
    powerOf("2 of 4", half, 1, 1, 2);
    powerOf("0 of 4", half, 2, 0, 1);
    LinenHouse eight = house("s0abc;s0abc;s0abc;s0abc;s0abc;s0abc;s0abc;d0abc", "");
    eight.weight(0, 9);
    // 64 in all, half is 32: three of 9 are no more, four are; the eighth (1) turns nothing.
    for (int m = 0; m < 7; m++) powerOf("seven by 9", eight, m, 1, 7);
    powerOf("1 beside seven by 9", eight, 7, 0, 1);
    eight.weight(2, 9);
    for (int m = 0; m < 8; m++) powerOf("eight by 9", eight, m, 1, 8);
    // Eight by 9, 5, 2 in two ways, and five by 4, 2, 1, counted over all orders one by one.
    powerByAllOrders("sssbbddd", 9, 5, 2);
    powerByAllOrders("sbbbdddd", 9, 3, 1);
    powerByAllOrders("sbddd", 4, 2, 1);
    powerByAllOrders("ssbbdd", 5, 3, 1);
    powerByAllOrders("sbbdddd", 6, 4, 1);
  }

  private static void powerByAllOrders(String sorts, int... weights) {
    int n = sorts.length();
    int[] own = new int[n], turns = new int[n];
    StringBuilder members = new StringBuilder();
    for (int m = 0; m < n; m++) {
      own[m] = weights["sbd".indexOf(sorts.charAt(m))];
      members.append(m == 0 ? "" : ";").append(sorts.charAt(m)).append("0abc");
    }
    int orders = joinAll(own, turns, 0, 0);
    LinenHouse x = house(members.toString(), "");
    for (int sort = 0; sort < 3; sort++) x.weight(sort, weights[sort]);
    for (int m = 0; m < n; m++) {
      long divisor = gcd(turns[m], orders);
      powerOf(sorts, x, m, turns[m] / divisor, orders / divisor);
    }
  }

  /** Counts who turns the scale in each order in which those that are not yet in may join: how many orders. */
  private static int joinAll(int[] own, int[] turns, int in, int ahead) {
    if (in == (1 << own.length) - 1) return 1;
    int all = 0, orders = 0;
    for (int w : own) all += w;
    for (int m = 0; m < own.length; m++) {
      if ((in >> m & 1) == 1) continue;
      int behind = joinAll(own, turns, in | 1 << m, ahead + own[m]);
      if (2 * ahead <= all && 2 * (ahead + own[m]) > all) turns[m] += behind;
      orders += behind;
    }
    return orders;
  }

  /** 1, 2, 0: beaten by most, not by like many. */
  private static void ring() {
    due("21 ring(), nothing", new LinenHouse().ring(), 0);
    due("21 ring(), one", house("s0abc", "").ring(), 0);
    due("21 ring(), like many", house("s0abc;s0cba", "").ring(), 0);
    due("21 ring(), three", house("d5abc;d5bca;d5cab", "").ring(), 1);
    due("21 ring(), the other way", house("d5acb;d5cba;d5bac", "").ring(), 2);
    due("21 ring(), eight", house("s0abc;s0abc;s0abc;s0bca;s0bca;s0bca;s0cab;s0cab", "").ring(), 1);
    due("21 ring(), eight, one beat by like many", house("s0abc;s0abc;s0abc;s0abc;s0bca;s0bca;s0cab;s0cab", "").ring(), 0);
    LinenHouse x = house("s0abc;d0bca;d0cab", "");
    x.weight(0, 9);
    due("21 ring(), by members", x.ring(), 1);
    for (int k = 0; k < 6 * 6 * 6 * 6; k++) {
      String[] four = {ORDERS[k % 6], ORDERS[k / 6 % 6], ORDERS[k / 36 % 6], ORDERS[k / 216]};
      boolean round = most(four, "ab") > 0 && most(four, "bc") > 0 && most(four, "ca") > 0;
      boolean other = most(four, "ba") > 0 && most(four, "cb") > 0 && most(four, "ac") > 0;
      due("21 ring() of " + String.join(" ", four), house("s0" + String.join(";s0", four), "").ring(), round ? 1 : other ? 2 : 0);
    }
  }

  /** By how many more the first of a pair is rather had. */
  private static int most(String[] orders, String pair) {
    int lead = 0;
    for (String order : orders) lead += 1 - 2 * rather(order, pair);
    return lead;
  }

  /** 1, 0; NONE: there is no MOTION. BAD. */
  private static void sham() {
    badBeside("22 sham(night, 0)", 0, 9, (x, v) -> x.sham(v, 0), BAD);
    badBeside("22 sham(0, member)", 0, 7, (x, v) -> x.sham(0, v), BAD);
    refused("22 sham(9, 0), no member: BAD ahead of NONE", LinenHouse::new, x -> x.sham(9, 0), BAD);
    refused("22 sham(9, 5), no such member", BoundariesTest::ordinary, x -> x.sham(9, 5), BAD);
    LinenHouse x = house("d4abc;d4bac;d4bac;s0abc;s0abc", "ab1");
    due("22 sham(0, 0), out of the cold", x.sham(0, 0), 1);
    for (int n = 1; n < 10; n++) due("22 sham(" + n + ", 0), no motion", x.sham(n, 0), NONE);
    LinenHouse last = house("d4abc;d4bac;d4bac;s0abc;s0abc", "ab1ab1ab1ab1ab1ab1ab1ab1ab1ba1");
    due("22 sham(9, 0), the last night", last.sham(9, 0), 1);
    due("22 sham(9, 4), has it so already", last.sham(9, 4), 0);
    due("22 sham(9, 1), has what it would rather", last.sham(9, 1), 0);
    // One vote is not enough; one vote makes like many, and the speaker tells.
    due("22 sham(0, 0), not enough", house("d4abc;d4bac;d4bac;s0bac", "ab1").sham(0, 0), 0);
    due("22 sham(0, 0), like many, the speaker for it", house("d4abc;d4bac;d4bac;s0abc", "ab1").sham(0, 0), 1);
    due("22 sham(0, 0), like many, the speaker against", house("d4abc;d4bac;d4bac;s0bac;s1abc;s1abc", "ab1").sham(0, 0), 0);
  }

  // ---- promises 23 to 27

  /** SEEN, 8 at most: NIGHT 0 to 9, one 0 to 2, 3: nothing. BAD; FULL. */
  private static void seen() {
    badBeside("23 seen(night, 0)", 0, 9, (x, v) -> x.seen(v, 0), BAD);
    badBeside("23 seen(0, one)", 0, 3, (x, v) -> x.seen(0, v), BAD);
    LinenHouse x = new LinenHouse();
    int[][] edges = {{0, 0}, {9, 0}, {0, 3}, {9, 3}, {0, 2}, {9, 2}, {5, 1}, {5, 1}};
    for (int k = 0; k < 8; k++) due("23 seen, the " + (k + 1) + "th", x.seen(edges[k][0], edges[k][1]), k + 1);
    due("23 seen(0, 0), the ninth", x.seen(0, 0), FULL);
    due("23 count(7)", x.count(7), 8);
    refused("23 seen(0, 3), full", BoundariesTest::full, y -> y.seen(0, 3), FULL);
    refused("23 seen(9, 0), full", BoundariesTest::full, y -> y.seen(9, 0), FULL);
    due("24 forget(), full", x.forget(), 8);
    due("24 forget(), empty", x.forget(), 0);
    due("24 count(7)", x.count(7), 0);
    due("23 seen(9, 3), the first again", x.seen(9, 3), 1);
    due("24 forget(), one", x.forget(), 1);
  }

  /** FOLDS 0 to 7 as bits, from none to all. */
  private static void never() {
    due("25 never(), nothing", new LinenHouse().never(), 0);
    due("25 never(), no folds, but seen", behind(LinenHouse::new, x -> x.seen(0, 3)).never(), 0);
    for (int many = 0; many <= 8; many++) {
      LinenHouse x = house("s0abc;s1bac", "ab1");
      for (int k = 0; k < many; k++) x.fold(k, 1, 1);
      due("25 never(), " + many + " folds, nothing seen", x.never(), (1 << many) - 1);
      x.seen(0, 1);
      due("25 never(), " + many + " folds, seen otherwise", x.never(), 0);
    }
    // Only without the one that brings member 1 up does a carry: each place among eight.
    for (int place = 0; place < 8; place++) {
      LinenHouse x = house("s1abc;s1bac", "ab1");
      for (int k = 0; k < 8; k++) x.fold(k == place ? 0 : 9, 1, k == place ? 0 : 3);
      due("15 house(0)", x.house(0), 1);
      x.seen(0, 0);
      due("25 never(), the fold " + place, x.never(), 1 << place);
    }
    LinenHouse none = house("", "ab1");
    none.fold(0, 0, 0);
    none.seen(0, 3);
    none.seen(9, 3);
    due("25 never(), no members: nothing carries", none.never(), 1);
    none.seen(0, 0);
    due("25 never(), no members, seen a", none.never(), 0);
  }

  /** Orders 0 to 5 as bits, from none to all; no such MEMBER. */
  private static void would() {
    badBeside("26 would(member)", 0, 7, (x, v) -> x.would(v), BAD);
    refused("26 would(5), no such member", BoundariesTest::ordinary, x -> x.would(5), BAD);
    for (int m = 0; m < 8; m++) due("26 would(" + m + "), nothing seen", house(EIGHT, TEN).would(m), 63);
    // One member, all three pairs: what is seen leaves one order alone.
    for (int k = 0; k < 6; k++) {
      LinenHouse x = house("s0" + ORDERS[5 - k], "ab1ac1bc1");
      int ab = ORDERS[k].indexOf('a') < ORDERS[k].indexOf('b') ? 0 : 1;
      int ac = ORDERS[k].indexOf('a') < ORDERS[k].indexOf('c') ? 0 : 2;
      int bc = ORDERS[k].indexOf('b') < ORDERS[k].indexOf('c') ? 1 : 2;
      x.seen(0, ab);
      x.seen(1, ac);
      x.seen(2, bc);
      due("26 would(0), " + ORDERS[k], x.would(0), 1 << k);
      x.seen(0, ab == 0 ? 1 : 0);
      due("26 would(0), at odds", x.would(0), 0);
    }
    LinenHouse late = house("s0abc", "ab1");
    late.seen(9, 3);
    due("26 would(0), nothing on a night without a motion", late.would(0), 63);
    late.seen(0, 3);
    due("26 would(0), nothing on a night with one", late.would(0), 0);
  }

  /** The NIGHT, 0 to 9, of like ones the least; no such MEMBER. */
  private static void ask() {
    badBeside("27 ask(member)", 0, 7, (x, v) -> x.ask(v), BAD);
    refused("27 ask(5), no such member", BoundariesTest::ordinary, x -> x.ask(5), BAD);
    String most = "ab1ab1ab1ab1ab1ab1ab1ab1ab1";
    LinenHouse x = house("s0abc;d0abc;d0abc", most + "ab2");
    due("27 ask(0), the last night", x.ask(0), 9);
    due("27 ask(1), all alike", x.ask(1), 0);
    due("27 ask(0), no motion on the last", house("s0abc;d0abc;d0abc", most).ask(0), 0);
    due("27 ask(0), no motions", house("s0abc", "").ask(0), 0);
    due("27 ask(0), of like ones the least", house("s0abc;d0abc;d0abc", "ab1ab1ab2ac2ab2").ask(0), 2);
    x.seen(0, 3);
    due("26 would(0), no order", x.would(0), 0);
    due("27 ask(0), no order", x.ask(0), 0);
    String[][] nights = {{"ab", "ac", "bc"}, {"ab", "bc", "ac"}, {"ac", "ab", "bc"}, {"ac", "bc", "ab"}, {"bc", "ab", "ac"}, {"bc", "ac", "ab"}};
    for (String[] pairs : nights) for (int k = 0; k < 27; k++) askOf(pairs, k % 3, k / 3 % 3, k / 9);
  }

  /** One member, three pairs; of each it was seen that the first (0) or the other (1) carried, or it was not seen (2). */
  private static void askOf(String[] pairs, int... carried) {
    LinenHouse x = house("s0abc", pairs[0] + "1" + pairs[1] + "1" + pairs[2] + "1");
    int bits = 63, ask = 0, least = 7;
    for (int n = 0; n < 3; n++) {
      if (carried[n] == 2) continue;
      x.seen(n, pairs[n].charAt(carried[n]) - 'a');
      for (int k = 0; k < 6; k++) if (rather(ORDERS[k], pairs[n]) != carried[n]) bits &= ~(1 << k);
    }
    for (int n = 0; n < 3; n++) {
      int[] alike = new int[2];
      for (int k = 0; k < 6; k++) if ((bits >> k & 1) == 1) alike[rather(ORDERS[k], pairs[n])]++;
      if (Math.max(alike[0], alike[1]) < least) {
        least = Math.max(alike[0], alike[1]);
        ask = n;
      }
    }
    String told = String.join(" ", pairs) + " seen " + carried[0] + carried[1] + carried[2];
    due("26 would(0), " + told, x.would(0), bits);
    due("27 ask(0), " + told, x.ask(0), ask);
  }

  private static int rather(String order, String pair) {
    return order.indexOf(pair.charAt(0)) < order.indexOf(pair.charAt(1)) ? 0 : 1;
  }

  // ---- promises 28 and 29

  private static long gcd(long a, long b) {
    return b == 0 ? a : gcd(b, a % b);
  }

  /** c 0 to 16, last 0 to 9, one 0 to 2, NIGHT 0 to 9, what 0 and 1. BAD, as the least long. */
  private static void ajar() {
    badBeside("28 ajar(c, 0, 0, 0, 0)", 0, 16, (x, v) -> x.ajar(v, 0, 0, 0, 0), LONG_BAD);
    badBeside("28 ajar(0, last, 0, 0, 0)", 0, 9, (x, v) -> x.ajar(0, v, 0, 0, 0), LONG_BAD);
    badBeside("28 ajar(0, 0, one, 0, 0)", 0, 2, (x, v) -> x.ajar(0, 0, v, 0, 0), LONG_BAD);
    badBeside("28 ajar(0, 0, 0, night, 0)", 0, 9, (x, v) -> x.ajar(0, 0, 0, v, 0), LONG_BAD);
    badBeside("28 ajar(16, 9, 2, 9, what)", 0, 1, (x, v) -> x.ajar(16, 9, 2, 9, v), LONG_BAD);
    // With a jar the three that lie together carry b, without one a.
    for (int many = 0; many <= 10; many += many == 0 ? 1 : 3) {
      for (int c = 0; c <= 16; c++) {
        for (int last = 0; last < 10; last++) ajarOf(many, c, last);
      }
    }
  }

  private static void ajarOf(int motions, int c, int last) {
    LinenHouse x = house("d2bac;d2bac;d2abc;s0abc;s0abc", "ab1ab1ab1ab1ab1ab1ab1ab1ab1ab1".substring(0, 3 * motions));
    for (int night = 0; night < 10; night++) {
      int chance = Math.min(night, motions - 1) <= last ? c : 0;
      int[] sixteenths = motions == 0 ? new int[3] : new int[] {16 - chance, chance, 0};
      for (int one = 0; one < 3; one++) {
        long divisor = gcd(sixteenths[one], 16);
        String call = "28 ajar(" + c + ", " + last + ", " + one + ", " + night + "), " + motions + " motions, ";
        due(call + "above", x.ajar(c, last, one, night, 0), sixteenths[one] / divisor);
        due(call + "below", x.ajar(c, last, one, night, 1), 16 / divisor);
      }
    }
  }

  /** The LOT of 6 of each member, by whole numbers, wrapped by hand. */
  private static int[] lots(int seed) {
    int[] lots = new int[8];
    BigInteger wrap = BigInteger.ONE.shiftLeft(32), s = BigInteger.valueOf(seed);
    for (int m = 0; m < 8; m++) {
      s = s.multiply(BigInteger.valueOf(1103515245)).add(BigInteger.valueOf(12345)).mod(wrap);
      lots[m] = s.shiftRight(16).mod(BigInteger.valueOf(6)).intValue();
    }
    return lots;
  }

  /** Any SEED, as ints that wrap; what 0 and 1. BAD. NONE. */
  private static void evenings() {
    for (int seed : new int[] {0, 1, -1, LEAST, GREATEST}) badBeside("29 evenings(" + seed + ", what)", 0, 1, (x, v) -> x.evenings(seed, v), BAD);
    int[] seeds = {0, 1, 2, -1, -2, LEAST, LEAST + 1, GREATEST, GREATEST - 1, 65535, 65536, -65536, 1 << 30, 1234567890, -1234567890};
    for (int seed : seeds) {
      int[] lots = lots(seed);
      for (int m = 0; m < 8; m++) eveningsOf(seed, m, ORDERS[lots[m]]);
      due("29 evenings(" + seed + ", 0), nothing", new LinenHouse().evenings(seed, 0), 0);
      due("29 evenings(" + seed + ", 1), nothing", new LinenHouse().evenings(seed, 1), NONE);
      due("29 evenings(" + seed + ", 0), no members", house("", TEN).evenings(seed, 0), 0);
      due("29 evenings(" + seed + ", 1), no members", house("", TEN).evenings(seed, 1), NONE);
      due("29 evenings(" + seed + ", 0), no motions", house(EIGHT, "").evenings(seed, 0), 0);
      due("29 evenings(" + seed + ", 1), no motions", house(EIGHT, "").evenings(seed, 1), NONE);
    }
    int turned = 0;
    for (int seed = 0; seed < 1000 && lots(turned)[0] != 5; seed++) turned = seed;
    LinenHouse x = house("s0abc", TEN);
    due("29 evenings(" + turned + ", 0), all ten otherwise", x.evenings(turned, 0), 10);
    due("29 evenings(" + turned + ", 1), ca behind NIGHT 9", x.evenings(turned, 1), 2);
  }

  /** Nobody has weight, so the speaker, the member asked for, tells of each pair which one its lot would rather have. */
  private static void eveningsOf(int seed, int speaker, String order) {
    StringBuilder members = new StringBuilder();
    for (int m = 0; m < 8; m++) members.append(m == 0 ? "" : ";").append(m == speaker ? "d0" : "d1").append("abc");
    int otherwise = 0;
    for (String pair : new String[] {"ab", "ac", "bc"}) {
      char rather = order.indexOf(pair.charAt(0)) < order.indexOf(pair.charAt(1)) ? pair.charAt(0) : pair.charAt(1);
      LinenHouse x = house(members.toString(), pair + "2");
      x.weight(2, 0);
      due("29 evenings(" + seed + ", 1), member " + speaker + ", " + pair, x.evenings(seed, 1), rather - 'a');
      if (rather != pair.charAt(0)) otherwise++;
    }
    LinenHouse x = house(members.toString(), "ab2ac2bc2");
    x.weight(2, 0);
    due("29 evenings(" + seed + ", 0), member " + speaker, x.evenings(seed, 0), otherwise);
  }

  // ---- promises 30 to 35

  /** SHEETS 0 to 3, FORMS 0 to 2, 0 to 60 items, 0 at first. BAD: SHEET, FORM, above 60; SIZE: below 0. */
  private static void sheet() {
    badBeside("30 sheet(s, 0, 1)", 0, 3, (x, v) -> x.sheet(v, 0, 1), BAD);
    badBeside("30 sheet(0, form, 1)", 0, 2, (x, v) -> x.sheet(0, v, 1), BAD);
    for (int n : new int[] {61, 62, GREATEST}) bad("30 sheet(0, 0, " + n + ")", x -> x.sheet(0, 0, n), BAD);
    for (int n : new int[] {-1, -2, LEAST}) {
      for (State state : STATES) refused("30 sheet(2, 2, " + n + ")", state, x -> x.sheet(2, 2, n), SIZE);
      badBeside("30 sheet(s, 0, " + n + "): BAD ahead of SIZE", 0, 3, (x, v) -> x.sheet(v, 0, n), BAD);
      badBeside("30 sheet(3, form, " + n + "): BAD ahead of SIZE", 0, 2, (x, v) -> x.sheet(3, v, n), BAD);
    }
    for (int s = 0; s < 4; s++) {
      for (int form = 0; form < 3; form++) {
        for (int n = 0; n <= 60; n += n < 2 || n > 57 ? 1 : 28) sheetOfSize(s, form, n);
      }
    }
  }

  private static void sheetOfSize(int s, int form, int n) {
    String call = "30 sheet(" + s + ", " + form + ", " + n + ")";
    LinenHouse x = full();
    due(call, x.sheet(s, form, n), n);
    for (int i = 0; i < n; i++) due(call + ", item " + i, x.get(s, form, i), 0);
    due(call + ", count(8) is as it was", x.count(8), 5);
    due(call + ", past the last item", x.get(s, form, n), LEAST);
    due(call + ", past the last item, count(8)", x.count(8), 2);
    due(call + ", lost", x.lose(s), n);
    due(call + ", lost again", x.lose(s), NULL);
    for (int t = 0; t < 4; t++) if (t != s) due(call + ", others are kept", x.get(t, t % 3, 59), t + 1);
  }

  /** It is LOST: how many items it had. BAD; NULL. */
  private static void lose() {
    badBeside("31 lose(s)", 0, 3, (x, v) -> x.lose(v), BAD);
    refused("31 lose(3), lost", BoundariesTest::ordinary, x -> x.lose(3), NULL);
    refused("31 lose(1), lost before", () -> behind(BoundariesTest::full, x -> x.lose(1)), x -> x.lose(1), NULL);
    LinenHouse x = new LinenHouse();
    x.sheet(2, 2, 0);
    due("31 lose(2), no items, but not lost", x.lose(2), 0);
    due("31 count(8)", x.count(8), 0);
    x.sheet(2, 2, 60);
    x.put(2, 2, 5, 7);
    due("31 lose(2), full", x.lose(2), 60);
    x.sheet(2, 2, 60);
    due("33 get(2, 2, 5), a new row", x.get(2, 2, 5), 0);
  }

  /** BAD; NULL; CAST; INDEX, the first that fits, of put and get alike. */
  private static void item(String call, State state, int s, int form, int i, int refusal) {
    refused("32 put(" + call + ")", state, x -> x.put(s, form, i, 77), refusal);
    refused("33 get(" + call + ")", state, x -> x.get(s, form, i), LEAST, findingOf(refusal));
  }

  private static void putAndGet() {
    badBeside("32 put(s, 0, 0, 1)", 0, 3, (x, v) -> x.put(v, 0, 0, 1), BAD);
    badBeside("32 put(0, form, 0, 1)", 0, 2, (x, v) -> x.put(0, v, 0, 1), BAD);
    badBeside("33 get(s, 0, 0)", 0, 3, (x, v) -> x.get(v, 0, 0), LEAST);
    badBeside("33 get(0, form, 0)", 0, 2, (x, v) -> x.get(0, v, 0), LEAST);
    State some = BoundariesTest::ordinary, full = BoundariesTest::full;
    for (int i : new int[] {-1, 3, 60, LEAST, GREATEST}) {
      for (int s = 0; s < 3; s++) {
        item(s + ", " + s + ", " + i, some, s, s, i, INDEX);
        item(s + ", " + (s + 1) % 3 + ", " + i + ": CAST ahead of INDEX", some, s, (s + 1) % 3, i, CAST);
        item(s + ", " + (s + 2) % 3 + ", " + i + ": CAST ahead of INDEX", some, s, (s + 2) % 3, i, CAST);
        item(3 + ", " + s + ", " + i + ": NULL ahead of CAST, INDEX", some, 3, s, i, NULL);
      }
      item("4, 0, " + i + ": BAD ahead of INDEX", some, 4, 0, i, BAD);
      item("3, 3, " + i + ": BAD ahead of NULL, INDEX", some, 3, 3, i, BAD);
    }
    item("0, 1, 0, CAST alone", some, 0, 1, 0, CAST);
    item("3, 0, 59, the last item of a full one, as another form", full, 3, 1, 59, CAST);
    item("3, 0, 60, past the last item of a full one", full, 3, 0, 60, INDEX);
    State none = () -> behind(LinenHouse::new, x -> x.sheet(0, 0, 0));
    item("0, 0, 0, no items", none, 0, 0, 0, INDEX);
    item("0, 2, 0, no items, another form", none, 0, 2, 0, CAST);
    LinenHouse x = full();
    for (int s = 0; s < 4; s++) {
      for (int i : new int[] {0, 59}) {
        due("32 put(" + s + ", " + s % 3 + ", " + i + ", 9)", x.put(s, s % 3, i, 9), 1);
        due("33 get(" + s + ", " + s % 3 + ", " + i + ")", x.get(s, s % 3, i), 9);
      }
      due("33 get, its neighbour", x.get(s, s % 3, 1), 0);
      due("33 get, its neighbour", x.get(s, s % 3, 58), 0);
    }
    due("32 count(8), no finding more", x.count(8), 5);
  }

  /** The lowest bits that it has; the least int may be an item, too. */
  private static void lowestBits() {
    int[] v = {0, 1, -1, 127, 128, 129, 255, 256, 257, -128, -129, 32767, 32768, 65535, 65536, -32768, -32769, GREATEST, LEAST};
    int[] bytes = {0, 1, -1, 127, -128, -127, -1, 0, 1, -128, 127, -1, 0, -1, 0, 0, -1, -1, 0};
    int[] shorts = {0, 1, -1, 127, 128, 129, 255, 256, 257, -128, -129, 32767, -32768, -1, 0, -32768, 32767, -1, 0};
    int[][] kept = {bytes, shorts, v};
    for (int form = 0; form < 3; form++) {
      LinenHouse x = new LinenHouse();
      x.sheet(3, form, 1);
      for (int k = 0; k < v.length; k++) {
        due("32 put(3, " + form + ", 0, " + v[k] + ")", x.put(3, form, 0, v[k]), 1);
        due("33 get(3, " + form + ", 0), " + v[k], x.get(3, form, 0), kept[form][k]);
      }
      due("33 count(8), the least int was an item", x.count(8), 0);
    }
  }

  /** BAD: the SHEETS; NULL: s, t; STORE; INDEX: below 0, not so many. */
  private static void copy() {
    badBeside("34 copy(s, 0, 0, 0, 1)", 0, 3, (x, v) -> x.copy(v, 0, 0, 0, 1), BAD);
    badBeside("34 copy(0, 0, t, 0, 1)", 0, 3, (x, v) -> x.copy(0, 0, v, 0, 1), BAD);
    State some = () -> behind(BoundariesTest::ordinary, x -> x.sheet(3, 0, 5));
    State lost = BoundariesTest::ordinary;
    bad("34 copy(4, 0, 3, 0, 1): BAD ahead of NULL", x -> x.copy(4, 0, 3, 0, 1), BAD);
    bad("34 copy(3, 0, 4, 0, 1): BAD ahead of NULL", x -> x.copy(3, 0, 4, 0, 1), BAD);
    bad("34 copy(4, -1, 0, 0, 1): BAD ahead of INDEX", x -> x.copy(4, -1, 0, 0, 1), BAD);
    int[][] nulls = {{3, 0, 0, 0, 1}, {0, 0, 3, 0, 1}, {3, 0, 3, 0, 0}, {3, -1, 0, 0, 1}, {1, 0, 3, 99, 1}, {3, 0, 2, 0, -1}};
    for (int[] c : nulls) refused("34 copy, NULL ahead of STORE, INDEX", lost, x -> x.copy(c[0], c[1], c[2], c[3], c[4]), NULL);
    int[][] stores = {{0, 0, 1, 0, 1}, {1, 0, 0, 0, 1}, {1, 0, 2, 0, 0}, {2, 0, 0, 0, 3}, {0, -1, 1, 0, 1}, {0, 0, 1, -1, 1}, {0, 0, 2, 0, -1}, {0, 0, 2, 0, 99}};
    for (int[] c : stores) refused("34 copy, STORE ahead of INDEX", some, x -> x.copy(c[0], c[1], c[2], c[3], c[4]), STORE);
    int[][] indexes = {{0, -1, 3, 0, 1}, {0, 0, 3, -1, 1}, {0, 0, 3, 0, -1}, {0, 0, 3, 0, 4}, {0, 1, 3, 0, 3}, {0, 3, 3, 0, 1}, {0, 4, 3, 0, 0}, {0, 0, 3, 3, 3},
        {0, 0, 3, 5, 1}, {0, 0, 3, 6, 0}, {3, 0, 0, 0, 4}, {3, 4, 0, 0, 2}, {0, -1, 3, 0, 0}, {0, 0, 3, -1, 0}, {0, GREATEST, 3, 0, 1}, {0, 0, 3, GREATEST, 1},
        {0, 0, 3, 0, GREATEST}, {0, GREATEST, 3, 0, GREATEST}, {0, 1, 3, 1, GREATEST}, {0, LEAST, 3, 0, 1}, {0, 0, 3, LEAST, 1}, {0, 0, 3, 0, LEAST},
        {0, LEAST, 3, LEAST, LEAST}, {0, 3, 0, 0, -1}, {3, 5, 3, 5, -1}};
    for (int[] c : indexes) refused("34 copy, INDEX " + c[1] + " " + c[3] + " " + c[4], some, x -> x.copy(c[0], c[1], c[2], c[3], c[4]), INDEX);
    copied("34 copy(0, 0, 3, 0, 3), all of it", some, 0, 0, 3, 0, 3, new int[] {1, 2, 3, 0, 0});
    copied("34 copy(0, 0, 3, 2, 3), to the end", some, 0, 0, 3, 2, 3, new int[] {0, 0, 1, 2, 3});
    copied("34 copy(0, 2, 3, 4, 1), the last one", some, 0, 2, 3, 4, 1, new int[] {0, 0, 0, 0, 3});
    copied("34 copy(0, 3, 3, 5, 0), nothing, from the end", some, 0, 3, 3, 5, 0, new int[] {0, 0, 0, 0, 0});
    copied("34 copy(0, 0, 3, 0, 0), nothing", some, 0, 0, 3, 0, 0, new int[] {0, 0, 0, 0, 0});
    copied("34 copy(0, 0, 0, 0, 3), itself", some, 0, 0, 0, 0, 3, new int[] {1, 2, 3});
    copied("34 copy(0, 0, 0, 1, 2), as they were", some, 0, 0, 0, 1, 2, new int[] {1, 1, 2});
    copied("34 copy(0, 1, 0, 0, 2), as they were", some, 0, 1, 0, 0, 2, new int[] {2, 3, 3});
    State none = () -> behind(LinenHouse::new, x -> x.sheet(1, 1, 0));
    due("34 copy(1, 0, 1, 0, 0), no items", none.make().copy(1, 0, 1, 0, 0), 1);
    refused("34 copy(1, 0, 1, 0, 1), no items", none, x -> x.copy(1, 0, 1, 0, 1), INDEX);
    LinenHouse whole = full();
    due("34 copy(3, 0, 0, 0, 60), sixty", whole.copy(3, 0, 0, 0, 60), 1);
    due("34 get(0, 0, 59)", whole.get(0, 0, 59), 4);
    due("34 copy(3, 0, 0, 0, 61)", whole.copy(3, 0, 0, 0, 61), INDEX);
  }

  private static void copied(String call, State state, int s, int i, int t, int j, int n, int[] items) {
    LinenHouse x = state.make();
    due(call, x.copy(s, i, t, j, n), 1);
    for (int k = 0; k < items.length; k++) due(call + ", item " + k, x.get(t, 0, k), items[k]);
    if (s != t) for (int k = 0; k < 3; k++) due(call + ", item " + k + " of the first", x.get(s, 0, k), k + 1);
    due(call + ", count(8)", x.count(8), 3);
  }

  /** As many as there are items, 10 at most. BAD; NULL. */
  private static void write() {
    badBeside("35 write(s)", 0, 3, (x, v) -> x.write(v), BAD);
    refused("35 write(3), lost", BoundariesTest::ordinary, x -> x.write(3), NULL);
    refused("35 write(2), lost before", () -> behind(BoundariesTest::full, x -> x.lose(2)), x -> x.write(2), NULL);
    int[] carried = {1, 0, NONE, NONE, NONE, NONE, NONE, NONE, NONE, NONE};
    for (int form = 0; form < 3; form++) {
      for (int n : new int[] {0, 1, 2, 3, 4, 9, 10, 11, 12, 60}) {
        LinenHouse x = house("s0bac", "ab1ca1");
        x.sheet(1, form, n);
        for (int i = 0; i < n; i++) x.put(1, form, i, 99);
        due("35 write(1), " + n + " items", x.write(1), Math.min(n, 10));
        for (int i = 0; i < n; i++) due("35 get(1, " + form + ", " + i + ") of " + n, x.get(1, form, i), i < 10 ? carried[i] : 99);
        due("35 count(8)", x.count(8), 0);
      }
      LinenHouse ten = house("s0abc", "bc1ca1cb2ba1cb1ca2bc1ab2bc1ac1");
      ten.sheet(0, form, 60);
      due("35 write(0), ten motions", ten.write(0), 10);
      for (int i = 0; i < 10; i++) due("35 get(0, " + form + ", " + i + ")", ten.get(0, form, i), i % 2 == 0 ? 1 : 0);
      due("35 get(0, " + form + ", 10)", ten.get(0, form, 10), 0);
      LinenHouse none = house("", TEN);
      none.sheet(0, form, 10);
      due("35 write(0), no members", none.write(0), 10);
      for (int i = 0; i < 10; i++) due("35 get(0, " + form + ", " + i + "), no members", none.get(0, form, i), NONE);
    }
  }

  // ---- promises 36 and 37

  /** What 0 to 8; 8 the latest FINDING, which BAD, NOT and FULL leave. */
  private static void count() {
    badBeside("36 count(what)", 0, 8, (x, v) -> x.count(v), BAD);
    int[] full = {8, 10, 47, 30, 8, 6, 16, 8, 5};
    for (int what = 0; what <= 8; what++) due("36 count(" + what + "), full", full().count(what), full[what]);
    LinenHouse x = new LinenHouse();
    x.sheet(1, 1, 1);
    x.sheet(2, 2, 1);
    long[] answers = {x.lose(0), x.count(8), x.put(1, 1, 1, 0), x.count(8), x.put(1, 2, 0, 0), x.count(8), x.copy(1, 0, 2, 0, 1), x.count(8), x.sheet(3, 0, -1),
        x.count(8)};
    long[] want = {NULL, 1, INDEX, 2, CAST, 3, STORE, 4, SIZE, 5};
    for (int k = 0; k < answers.length; k++) due("36 findings, " + k, answers[k], want[k]);
    due("36 undo(0), NOT", x.undo(0), NOT);
    due("36 count(8), behind NOT", x.count(8), 5);
    due("36 count(9), BAD", x.count(9), BAD);
    due("36 get(4, 0, 0), BAD", x.get(4, 0, 0), LEAST);
    due("36 count(8), behind BAD", x.count(8), 5);
    due("36 get(1, 1, 0), well", x.get(1, 1, 0), 0);
    due("36 count(8), behind a call that is well", x.count(8), 5);
    for (int k = 0; k < 6; k++) x.jar(0);
    due("36 jar(0), FULL", x.jar(0), FULL);
    due("36 count(8), behind FULL", x.count(8), 5);
    due("36 get(0, 0, 0), NULL", x.get(0, 0, 0), LEAST);
    due("36 count(8), the latest", x.count(8), 1);
  }

  /** As longs that wrap: told once more by whole numbers without an end, then cut to 64 bits. */
  private static void digest() {
    // Of these the chance behind NIGHT 7 hangs on the jar of NIGHT 5, then on none, by that of NIGHTS 6, 7, 8.
    String five = "d2bac;d2bac;d2abc;s0abc;s0abc";
    State six = () -> house(five, "ab1ab1ab1ab1ab1ab1"), seven = () -> house(five, "ab1ab1ab1ab1ab1ab1ab1");
    State nine = () -> house("s0abc", "ab1ab1ab1ab1ab1ab1bc1ab1cb1"), other = () -> house("s0abc", "ab1ab1ab1ab1ab1ab1ab1bc1ab1");
    List<State> states = new ArrayList<>(List.of(STATES));
    states.addAll(List.of(six, seven, nine, other));
    for (State state : states) {
      BigInteger h = BigInteger.valueOf(17);
      for (long part : digested(state)) h = h.multiply(BigInteger.valueOf(31)).add(BigInteger.valueOf(part));
      due("37 digest()", state.make().digest(), h.longValue());
      due("37 digest(), twice", behind(state, x -> x.digest()).digest(), h.longValue());
    }
    State[] like = {() -> behind(BoundariesTest::ordinary, x -> x.lose(3)), () -> behind(BoundariesTest::ordinary, x -> x.sheet(0, 0, 60))};
    for (State state : like) due("37 digest(), sheets and findings are not in it", state.make().digest(), ordinary().digest());
  }

  private static List<Long> digested(State state) {
    List<Long> all = new ArrayList<>();
    LinenHouse x = state.make();
    for (int what = 0; what <= 7; what++) all.add((long) x.count(what));
    for (int text = 0; text < 2; text++) all.add((long) x.fault(text));
    int members = x.count(0);
    for (int m = 0; m < members; m++) {
      x = state.make();
      for (int what = 0; what <= 4; what++) all.add((long) x.member(m, what));
      for (int n : new int[] {0, 4, 9}) {
        for (int what = 0; what <= 2; what++) all.add((long) x.lies(n, m, what));
        all.add((long) x.sham(n, m));
      }
      for (int what = 0; what <= 1; what++) all.add(x.power(m, what));
      all.add((long) x.would(m));
      all.add((long) x.ask(m));
    }
    x = state.make();
    for (int n = 0; n < 10; n++) {
      for (int what = 0; what <= 2; what++) all.add((long) x.motion(n, what));
      for (int what = 0; what <= 3; what++) all.add((long) x.vote(n, what));
      all.add((long) x.house(n));
      all.add((long) x.lift(n, NONE));
      all.add((long) x.lift(n, 0));
    }
    all.add((long) x.told());
    all.add((long) x.pleased());
    for (int one = 0; one < 3; one++) all.add((long) x.agenda(one));
    all.add((long) x.ring());
    all.add((long) x.never());
    for (int what = 0; what <= 1; what++) all.add(x.ajar(5, 5, 1, 7, what));
    for (int what = 0; what <= 1; what++) all.add((long) x.evenings(7, what));
    return all;
  }

  public static void main(String[] args) {
    aNewObject();
    type();
    wipe();
    undo();
    faultOfEveryByte();
    faultAtTheEnd();
    faultOfALetterToldAgain();
    faultEmpties();
    member();
    motion();
    weight();
    fold();
    jar();
    back();
    read();
    lies();
    warm();
    vote();
    houseBehind();
    toldAndPleased();
    lift();
    agenda();
    power();
    ring();
    sham();
    seen();
    never();
    would();
    ask();
    ajar();
    evenings();
    sheet();
    lose();
    putAndGet();
    lowestBits();
    copy();
    write();
    count();
    digest();
    System.out.println(checks + " checks, " + wrong + " answers not as due");
    if (wrong != 0) System.exit(1);
  }
}
