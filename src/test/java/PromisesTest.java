/** Each promise by answers found by hand from the document: ordinary calls, edges, wrong calls. */
public final class PromisesTest {
  private static final int NULL = -11, INDEX = -12, CAST = -13, STORE = -14, SIZE = -15;
  private static final int BAD = LinenHouse.BAD, NOT = LinenHouse.NOT, FULL = LinenHouse.FULL, NONE = LinenHouse.NONE;
  private static final int LEAST = Integer.MIN_VALUE;
  private static final long LONG_BAD = Long.MIN_VALUE + 2;
  private static int wrong = 0, checks = 0;

  private static void due(String call, long got, long want) {
    checks++;
    if (got != want) {
      wrong++;
      System.out.println(call + " answered " + got + ", due is " + want);
    }
  }

  private static void typeAll(LinenHouse x, int text, String all) {
    for (int i = 0; i < all.length(); i++) x.type(text, all.charAt(i));
  }

  private static LinenHouse house(String members, String motions) {
    LinenHouse x = new LinenHouse();
    typeAll(x, 0, members);
    typeAll(x, 1, motions);
    due("fault(0) of " + members, x.fault(0), NONE);
    due("fault(1) of " + motions, x.fault(1), NONE);
    return x;
  }

  private static void newObject() {
    LinenHouse x = new LinenHouse();
    for (int what = 0; what <= 8; what++) due("1 count(" + what + ")", x.count(what), 0);
    due("1 house(9)", x.house(9), NONE);
    due("1 weight(0, 3)", x.weight(0, 3), 3);
    due("1 weight(1, 2)", x.weight(1, 2), 2);
    due("1 weight(2, 1)", x.weight(2, 1), 1);
    for (int s = 0; s < 4; s++) due("1 lose(" + s + ")", x.lose(s), NULL);
  }

  private static void type() {
    LinenHouse x = new LinenHouse();
    due("2 type(-1, 97)", x.type(-1, 97), BAD);
    due("2 type(2, 97)", x.type(2, 97), BAD);
    due("2 type(0, -1)", x.type(0, -1), BAD);
    due("2 type(0, 256)", x.type(0, 256), BAD);
    due("2 count(2)", x.count(2), 0);
    for (int i = 1; i <= 47; i++) due("2 type(0)", x.type(0, i % 2 == 0 ? 0 : 255), i);
    for (int i = 1; i <= 30; i++) due("2 type(1)", x.type(1, 97), i);
    due("2 type(0, 1), full", x.type(0, 1), FULL);
    due("2 type(1, 1), full", x.type(1, 1), FULL);
    due("2 type(1, 256), full", x.type(1, 256), BAD);
    due("2 count(2)", x.count(2), 47);
    due("2 count(3)", x.count(3), 30);
  }

  private static void wipeAndUndo() {
    LinenHouse x = house("s0abc;b1bca", "ab1");
    due("3 wipe(2)", x.wipe(2), BAD);
    due("3 wipe(-1)", x.wipe(-1), BAD);
    due("4 undo(2)", x.undo(2), BAD);
    due("4 undo(-1)", x.undo(-1), BAD);
    due("4 undo(0)", x.undo(0), 10);
    due("4 count(0)", x.count(0), 0);
    due("4 fault(0)", x.fault(0), 10);
    for (int left = 9; left >= 5; left--) due("4 undo(0)", x.undo(0), left);
    due("4 count(0)", x.count(0), 1);
    due("3 wipe(0)", x.wipe(0), 5);
    due("3 wipe(0)", x.wipe(0), 0);
    due("3 count(0)", x.count(0), 0);
    due("4 undo(0)", x.undo(0), NOT);
    due("4 undo(1)", x.undo(1), 2);
    due("3 wipe(1)", x.wipe(1), 2);
    due("4 undo(1)", x.undo(1), NOT);
  }

  private static void faultOf(int text, String all, int want) {
    LinenHouse x = new LinenHouse();
    typeAll(x, text, all);
    due("5 fault(" + text + ") of " + all, x.fault(text), want);
    if (want != NONE) due("5 count(" + text + ") of " + all, x.count(text), 0);
  }

  private static void fault() {
    String[] members = {"", "x", "s", "s6", "s/", "s0", "s0d", "s0a", "s0aa", "s0ab", "s0aba", "s0abb", "s0abd", "s0abc", "s0abc,", "s0abc;", "s0abc;;",
        "s0abc;b5", "s0abc;b5cba;d3bca", "s0abc;b5cba;d3bcb", "S0abc", "a0abc", "s0abc;b5cba;d3bca;x"};
    int[] places = {NONE, 0, 1, 1, 1, 2, 2, 3, 3, 4, 4, 4, 4, NONE, 5, 6, 6, 8, NONE, 16, 0, 0, 18};
    for (int k = 0; k < members.length; k++) faultOf(0, members[k], places[k]);
    String[] motions = {"", "d", "a", "aa", "ad", "ab", "ab0", "ab3", "ab1", "ab2", "ab1c", "ab1cc", "ab1ca2", "ab1;", "ab1ca2ab2bc1ca1cb2ba1ab2ac1ac2",
        "ab1ca2ab2bc1ca1cb2ba1ab2ac1acc"};
    int[] stops = {NONE, 0, 1, 1, 1, 2, 2, 2, NONE, NONE, 4, 4, NONE, 3, NONE, 29};
    for (int k = 0; k < motions.length; k++) faultOf(1, motions[k], stops[k]);
    LinenHouse x = new LinenHouse();
    due("5 fault(2)", x.fault(2), BAD);
    due("5 fault(-1)", x.fault(-1), BAD);
    x.type(0, 255);
    due("5 fault(0) of byte 255", x.fault(0), 0);
  }

  private static void memberAndMotion() {
    LinenHouse x = house("s0abc;b1acb;d2bac;s3bca;b4cab;d5cba", "ab1bc2ca1");
    int[][] members = {{0, 0, 0, 1, 2}, {1, 1, 0, 2, 1}, {2, 2, 1, 0, 2}, {0, 3, 1, 2, 0}, {1, 4, 2, 0, 1}, {2, 5, 2, 1, 0}};
    for (int m = 0; m < 6; m++) for (int w = 0; w < 5; w++) due("6 member(" + m + ", " + w + ")", x.member(m, w), members[m][w]);
    due("6 member(6, 0)", x.member(6, 0), BAD);
    due("6 member(-1, 0)", x.member(-1, 0), BAD);
    due("6 member(0, 5)", x.member(0, 5), BAD);
    due("6 member(0, -1)", x.member(0, -1), BAD);
    x.fold(0, 0, 5);
    due("6 member(0, 1), folded", x.member(0, 1), 0);
    int[][] motions = {{0, 1, 1}, {1, 2, 2}, {2, 0, 1}, {NONE, NONE, NONE}};
    for (int n = 0; n < 4; n++) for (int w = 0; w < 3; w++) due("7 motion(" + n + ", " + w + ")", x.motion(n, w), motions[n][w]);
    due("7 motion(9, 2)", x.motion(9, 2), NONE);
    due("7 motion(10, 0)", x.motion(10, 0), BAD);
    due("7 motion(-1, 0)", x.motion(-1, 0), BAD);
    due("7 motion(9, 3)", x.motion(9, 3), BAD);
    due("7 motion(0, -1)", x.motion(0, -1), BAD);
  }

  private static void weight() {
    LinenHouse x = house("s0abc;b0bac;d0bac", "ab2");
    due("8 count(6)", x.count(6), 6);
    due("8 vote(0, 2)", x.vote(0, 2), 0);
    due("8 weight(3, 1)", x.weight(3, 1), BAD);
    due("8 weight(-1, 1)", x.weight(-1, 1), BAD);
    due("8 weight(0, -1)", x.weight(0, -1), BAD);
    due("8 weight(0, 10)", x.weight(0, 10), BAD);
    due("8 weight(2, 9)", x.weight(2, 9), 1);
    due("8 weight(2, 0)", x.weight(2, 0), 9);
    due("8 weight(0, 2)", x.weight(0, 2), 3);
    due("8 weight(1, 3)", x.weight(1, 3), 2);
    due("8 vote(0, 2)", x.vote(0, 2), 1);
    due("8 vote(0, 1)", x.vote(0, 1), 1);
    due("8 count(6)", x.count(6), 5);
  }

  private static void foldJarBack() {
    LinenHouse x = house("s1abc", "ab1");
    due("9 fold(-1, 0, 0)", x.fold(-1, 0, 0), BAD);
    due("9 fold(10, 0, 0)", x.fold(10, 0, 0), BAD);
    due("9 fold(0, -1, 0)", x.fold(0, -1, 0), BAD);
    due("9 fold(0, 8, 0)", x.fold(0, 8, 0), BAD);
    due("9 fold(0, 0, -1)", x.fold(0, 0, -1), BAD);
    due("9 fold(0, 0, 6)", x.fold(0, 0, 6), BAD);
    for (int k = 1; k <= 7; k++) due("9 fold(9, 7, 5)", x.fold(9, 7, 5), k);
    due("9 fold(0, 0, 5)", x.fold(0, 0, 5), 8);
    due("9 lies(0, 0, 0)", x.lies(0, 0, 0), 5);
    due("9 fold(0, 0, 0), full", x.fold(0, 0, 0), FULL);
    due("9 fold(0, 0, 6), full", x.fold(0, 0, 6), BAD);
    due("10 jar(-1)", x.jar(-1), BAD);
    due("10 jar(10)", x.jar(10), BAD);
    for (int k = 1; k <= 6; k++) due("10 jar(9)", x.jar(9), k);
    due("10 jar(0), full", x.jar(0), FULL);
    due("10 jar(10), full", x.jar(10), BAD);
    due("11 back(2)", x.back(2), BAD);
    due("11 back(-1)", x.back(-1), BAD);
    due("11 back(0)", x.back(0), 7);
    due("11 lies(0, 0, 0)", x.lies(0, 0, 0), 1);
    for (int left = 6; left >= 0; left--) due("11 back(0)", x.back(0), left);
    due("11 back(0)", x.back(0), NOT);
    due("11 lies(9, 0, 1)", x.lies(9, 0, 1), 1);
    for (int left = 5; left >= 0; left--) due("11 back(1)", x.back(1), left);
    due("11 back(1)", x.back(1), NOT);
    due("11 lies(9, 0, 1)", x.lies(9, 0, 1), 4);
  }

  private static void read() {
    LinenHouse x = house("s1abc;s1bac", "ab1");
    due("12 read(4)", x.read(4), BAD);
    due("12 read(-1)", x.read(-1), BAD);
    due("12 read(1)", x.read(1), NULL);
    due("12 count(8)", x.count(8), 1);
    x.sheet(1, 1, 8);
    due("12 fold(0, 1, 3)", x.fold(0, 1, 3), 1);
    x.put(1, 1, 2, 4);
    x.put(1, 1, 3, 9);
    x.put(1, 1, 4, 7);
    due("12 read(1), two whole ones", x.read(1), 2);
    due("12 count(4)", x.count(4), 3);
    due("12 lies(0, 0, 0)", x.lies(0, 0, 0), 4);
    due("12 lies(0, 1, 0)", x.lies(0, 1, 0), 3);
    x.put(1, 1, 5, 6);
    due("12 read(1), shelf 6", x.read(1), 1);
    x.put(1, 1, 0, -1);
    due("12 read(1), night -1", x.read(1), 0);
    due("12 count(4)", x.count(4), 4);
    x.sheet(1, 0, 60);
    due("12 read(1), up to the eighth", x.read(1), 4);
    due("12 count(4)", x.count(4), 8);
    due("12 read(1), full", x.read(1), 0);
    x.sheet(2, 2, 2);
    due("12 read(2), none whole", x.read(2), 0);
    LinenHouse y = new LinenHouse();
    y.sheet(0, 0, 6);
    y.put(0, 0, 3, 256 + 9);
    due("12 read(0), bytes", y.read(0), 2);
    y.put(0, 0, 0, 255);
    due("12 read(0), byte -1", y.read(0), 0);
  }

  private static void lies() {
    LinenHouse x = house("d4abc;d4bca;d4cab;s0bac", "ab1bc1");
    x.fold(5, 3, 1);
    x.fold(2, 3, 3);
    x.fold(2, 3, 2);
    int[] shelves = {0, 0, 2, 2, 2, 1, 1, 1, 1, 1};
    for (int n = 0; n < 10; n++) due("13 lies(" + n + ", 3, 0)", x.lies(n, 3, 0), shelves[n]);
    due("13 lies(2, 3, 1)", x.lies(2, 3, 1), 3);
    x.jar(2);
    x.jar(2);
    x.jar(0);
    due("13 lies(2, 3, 1), jars", x.lies(2, 3, 1), 0);
    due("13 lies(0, 3, 1), jar", x.lies(0, 3, 1), 2);
    due("13 lies(0, 0, 1), jar", x.lies(0, 0, 1), 0);
    due("13 lies(1, 0, 1)", x.lies(1, 0, 1), 1);
    int[] first = {0, 0, 0, 1}, second = {0, 0, 0, 0};
    for (int m = 0; m < 4; m++) {
      due("13 lies(0, " + m + ", 2)", x.lies(0, m, 2), first[m]);
      due("13 lies(1, " + m + ", 2)", x.lies(1, m, 2), second[m]);
      due("13 lies(2, " + m + ", 2)", x.lies(2, m, 2), NONE);
    }
    due("13 lies(10, 0, 0)", x.lies(10, 0, 0), BAD);
    due("13 lies(-1, 0, 0)", x.lies(-1, 0, 0), BAD);
    due("13 lies(0, 4, 0)", x.lies(0, 4, 0), BAD);
    due("13 lies(0, -1, 0)", x.lies(0, -1, 0), BAD);
    due("13 lies(0, 0, 3)", x.lies(0, 0, 3), BAD);
    due("13 lies(9, 0, -1)", x.lies(9, 0, -1), BAD);
    LinenHouse even = house("d4abc;d4bac;d3bac;d3abc;d3abc", "ab1");
    int[] asThemselves = {0, 1, 1, 0, 0};
    for (int m = 0; m < 5; m++) due("13 even lies(0, " + m + ", 2)", even.lies(0, m, 2), asThemselves[m]);
    even.jar(0);
    due("13 even lies(0, 2, 2), jar", even.lies(0, 2, 2), 0);
  }

  private static void voteAndHouse() {
    LinenHouse x = house("d1abc;s0bac;b1bca", "ab1ab2ca1");
    int[][] answers = {{1, 1, 1, 1}, {1, 4, 1, 1}, {1, 1, 0, 1}};
    for (int n = 0; n < 3; n++) for (int w = 0; w < 4; w++) due("14 vote(" + n + ", " + w + ")", x.vote(n, w), answers[n][w]);
    due("14 vote(3, 0)", x.vote(3, 0), NONE);
    due("14 vote(9, 3)", x.vote(9, 3), NONE);
    due("14 vote(10, 0)", x.vote(10, 0), BAD);
    due("14 vote(-1, 0)", x.vote(-1, 0), BAD);
    due("14 vote(9, 4)", x.vote(9, 4), BAD);
    due("14 vote(0, -1)", x.vote(0, -1), BAD);
    int[] houses = {1, 1, 0, 0, 0, 0, 0, 0, 0, 0};
    for (int n = 0; n < 10; n++) due("15 house(" + n + ")", x.house(n), houses[n]);
    due("15 house(10)", x.house(10), BAD);
    due("15 house(-1)", x.house(-1), BAD);
    x.wipe(0);
    due("14 vote(0, 0), no members", x.vote(0, 0), NONE);
    due("15 house(2), no members", x.house(2), NONE);
  }

  private static void toldAndPleased() {
    LinenHouse x = house("d1abc;s0bac;b2cab", "ab1ac2ab2");
    due("16 told()", x.told(), 1);
    due("16 vote(2, 2)", x.vote(2, 2), 1);
    due("17 pleased(), m 0 and 1 on two nights", x.pleased(), 0);
    LinenHouse three = house("s0abc;s0bac;s0bca", "ab1bc1");
    for (int k = 0; k < 4; k++) due("17 pleased(), m 1 and 2 on two nights", three.pleased(), 1);
    due("17 pleased(), all on no night", house("s0abc;s0bac", "").pleased(), 0);
    due("16 told(), NIGHT 0", house("s0abc;s0bac", "ab1bc1").told(), 1);
    x.weight(0, 0);
    x.weight(1, 0);
    x.weight(2, 0);
    due("16 told(), no weights", x.told(), 2);
    x.fold(0, 0, 0);
    due("16 vote(2, 2), the speaker is the least", x.vote(2, 2), 0);
    due("17 pleased(), of like ones the least", x.pleased(), 0);
    x.fold(2, 0, 5);
    x.fold(2, 2, 5);
    due("16 vote(2, 2), the speaker on the highest", x.vote(2, 2), 1);
    due("17 pleased(), two nights", x.pleased(), 0);
    x.wipe(0);
    due("16 told(), no members", x.told(), 0);
    due("17 pleased(), no members", x.pleased(), NONE);
  }

  private static void liftOf(LinenHouse x, int night, int many, int first, int second) {
    due("18 lift(" + night + ", NONE)", x.lift(night, NONE), many);
    due("18 lift(" + night + ", 0)", x.lift(night, 0), first);
    due("18 lift(" + night + ", 1)", x.lift(night, 1), second);
  }

  private static void lift() {
    liftOf(house("d5abc;d5bac;d5bac", "ab1"), 0, NONE, NONE, NONE);
    liftOf(house("d5abc;d5abc;d5bac;d5bac;d5bac", "ab1"), 0, 2, 2, 3);
    liftOf(house("d5abc;d5abc;d5bac;d5bac", "ab1"), 0, 1, 0, NONE);
    LinenHouse folded = house("s1abc;s1bac", "ab1");
    folded.fold(0, 1, 0);
    liftOf(folded, 0, 1, 0, NONE);
    LinenHouse x = house("s1abc;s1bac", "ab1ab1");
    x.fold(1, 1, 3);
    liftOf(x, 0, 1, 1, NONE);
    liftOf(x, 1, 1, 1, NONE);
    liftOf(x, 2, NONE, NONE, NONE);
    due("18 lift(10, 0)", x.lift(10, 0), BAD);
    due("18 lift(-1, 0)", x.lift(-1, 0), BAD);
    due("18 lift(0, -2)", x.lift(0, -2), BAD);
    due("18 lift(9, 2)", x.lift(9, 2), BAD);
    due("18 count(4)", x.count(4), 1);
    x.wipe(0);
    liftOf(x, 0, NONE, NONE, NONE);
  }

  private static void agenda() {
    LinenHouse x = house("d5cba;d5cba;d5abc;s0abc;s0abc", "");
    due("19 agenda(0)", x.agenda(0), NONE);
    due("19 agenda(1)", x.agenda(1), NONE);
    due("19 agenda(2)", x.agenda(2), 0);
    for (int m = 0; m < 3; m++) x.fold(0, m, 0);
    due("19 agenda(2), folds", x.agenda(2), 0);
    LinenHouse ring = house("s0abc;s1bca;s2cab", "");
    ring.jar(0);
    due("19 ring agenda(0)", ring.agenda(0), 2);
    due("19 ring agenda(1)", ring.agenda(1), 1);
    due("19 ring agenda(2)", ring.agenda(2), 0);
    due("19 agenda(3)", ring.agenda(3), BAD);
    due("19 agenda(-1)", ring.agenda(-1), BAD);
    LinenHouse two = house("s1abc;s0cba", "");
    due("19 two agenda(2), by the speaker", two.agenda(2), 0);
    due("19 two agenda(0)", two.agenda(0), NONE);
    due("19 one agenda(1)", house("s0bac", "").agenda(1), 0);
    due("19 none agenda(1)", new LinenHouse().agenda(1), NONE);
    LinenHouse warm = house("s2cba;s2cba;s2abc;s0abc;s0abc", "");
    due("19 warm agenda(0), without jars", warm.agenda(0), 0);
    due("19 warm agenda(2), without jars", warm.agenda(2), NONE);
  }

  private static void power() {
    LinenHouse x = house("s0abc;b0abc;d0abc", "");
    int[] above = {2, 1, 1}, below = {3, 6, 6};
    for (int m = 0; m < 3; m++) {
      due("20 power(" + m + ", 0)", x.power(m, 0), above[m]);
      due("20 power(" + m + ", 1)", x.power(m, 1), below[m]);
    }
    due("20 power(3, 0)", x.power(3, 0), LONG_BAD);
    due("20 power(-1, 0)", x.power(-1, 0), LONG_BAD);
    due("20 power(0, 2)", x.power(0, 2), LONG_BAD);
    due("20 power(0, -1)", x.power(0, -1), LONG_BAD);
    x.weight(0, 9);
    due("20 power(0, 0), alone", x.power(0, 0), 1);
    due("20 power(0, 1), alone", x.power(0, 1), 1);
    due("20 power(1, 0), nothing", x.power(1, 0), 0);
    due("20 power(1, 1), nothing", x.power(1, 1), 1);
    LinenHouse eight = house("d0abc;d0abc;d0abc;d0abc;d0abc;d0abc;d0abc;d0abc", "");
    due("20 power(7, 0), of eight", eight.power(7, 0), 1);
    due("20 power(7, 1), of eight", eight.power(7, 1), 8);
  }

  private static void ring() {
    due("21 ring()", house("s0abc;s0bca;s0cab", "").ring(), 1);
    due("21 ring(), the other way", house("s0cba;s0bac;s0acb", "").ring(), 2);
    due("21 ring(), like many", house("s0abc;s0cba", "").ring(), 0);
    due("21 ring(), none", house("s0abc;s0bca;s0abc", "").ring(), 0);
    due("21 ring(), as they would, not as they lean", house("d5abc;d5bca;d5cab", "ab1").ring(), 1);
    String[] nearly = {"s0abc;s0abc;s0bca;s0cab", "s0bca;s0bca;s0cab;s0abc", "s0cab;s0cab;s0abc;s0bca", "s0cba;s0cba;s0bac;s0acb", "s0bac;s0bac;s0acb;s0cba",
        "s0acb;s0acb;s0cba;s0bac"};
    for (String members : nearly) due("21 ring(), two of like many, " + members, house(members, "").ring(), 0);
    due("21 ring(), no members", new LinenHouse().ring(), 0);
  }

  private static void sham() {
    LinenHouse x = house("d4abc;d4bac;d4bac;s0abc;s0abc", "ab1ab2");
    int[] first = {1, 0, 0, 0, 0};
    for (int m = 0; m < 5; m++) due("22 sham(0, " + m + ")", x.sham(0, m), first[m]);
    due("22 sham(1, 0), by weight a carries", x.sham(1, 0), 0);
    due("22 sham(2, 0)", x.sham(2, 0), NONE);
    due("22 sham(10, 0)", x.sham(10, 0), BAD);
    due("22 sham(-1, 0)", x.sham(-1, 0), BAD);
    due("22 sham(9, 5)", x.sham(9, 5), BAD);
    due("22 sham(0, -1)", x.sham(0, -1), BAD);
    due("22 vote(0, 0), as before", x.vote(0, 0), 2);
    LinenHouse speaker = house("d4abc;d4bac;d4bac;d5abc", "ab1");
    due("22 vote(0, 2)", speaker.vote(0, 2), 1);
    due("22 sham(0, 0), the speaker's own", speaker.sham(0, 0), 1);
  }

  private static void seenAndForget() {
    LinenHouse x = house("s1abc;s1bac", "ab1");
    due("23 seen(-1, 0)", x.seen(-1, 0), BAD);
    due("23 seen(10, 0)", x.seen(10, 0), BAD);
    due("23 seen(0, -1)", x.seen(0, -1), BAD);
    due("23 seen(0, 4)", x.seen(0, 4), BAD);
    for (int k = 1; k <= 8; k++) due("23 seen(9, 3)", x.seen(9, 3), k);
    due("23 seen(0, 0), full", x.seen(0, 0), FULL);
    due("23 seen(0, 4), full", x.seen(0, 4), BAD);
    due("24 forget()", x.forget(), 8);
    due("24 forget()", x.forget(), 0);
    due("24 count(7)", x.count(7), 0);
  }

  private static void neverWouldAsk() {
    LinenHouse x = house("s1abc;s1bac", "ab1");
    due("25 never(), no folds", x.never(), 0);
    x.fold(0, 1, 0);
    x.fold(0, 0, 0);
    x.fold(5, 0, 2);
    due("25 never(), nothing seen", x.never(), 7);
    x.seen(0, 0);
    due("25 never()", x.never(), 5);
    x.seen(9, 3);
    due("25 never(), nothing carried", x.never(), 5);
    x.seen(0, 1);
    due("25 never(), at odds", x.never(), 0);
    LinenHouse z = house("s1abc;s1bac", "ab1ac1");
    z.fold(0, 1, 0);
    z.fold(1, 0, 0);
    due("27 ask(0), folds", z.ask(0), 1);
    z.seen(0, 1);
    due("26 would(0), folds", z.would(0), 63);
    LinenHouse y = house("s0abc", "ab1ac1");
    due("26 would(0)", y.would(0), 63);
    due("27 ask(0)", y.ask(0), 0);
    y.seen(0, 1);
    due("26 would(0), b", y.would(0), 44);
    due("27 ask(0), b", y.ask(0), 1);
    y.forget();
    y.seen(0, 0);
    due("26 would(0), a", y.would(0), 19);
    due("27 ask(0), a", y.ask(0), 1);
    y.seen(1, 2);
    due("26 would(0), a, then c", y.would(0), 16);
    due("27 ask(0), one order", y.ask(0), 0);
    y.seen(1, 3);
    due("26 would(0), at odds", y.would(0), 0);
    due("27 ask(0), no order", y.ask(0), 0);
    due("26 would(1)", y.would(1), BAD);
    due("26 would(-1)", y.would(-1), BAD);
    due("27 ask(1)", y.ask(1), BAD);
    due("27 ask(-1)", y.ask(-1), BAD);
    due("26 member(0, 2), as before", y.member(0, 2), 0);
  }

  private static void chance(LinenHouse x, int c, int last, int one, int night, int above, int below) {
    String call = "28 ajar(" + c + ", " + last + ", " + one + ", " + night + ", ";
    due(call + "0)", x.ajar(c, last, one, night, 0), above);
    due(call + "1)", x.ajar(c, last, one, night, 1), below);
  }

  private static void ajar() {
    LinenHouse x = house("d2bac;d2bac;d2abc;s0abc;s0abc", "ab1ab1");
    x.jar(1);
    chance(x, 4, 0, 0, 0, 3, 4);
    chance(x, 4, 0, 1, 0, 1, 4);
    chance(x, 4, 0, 2, 0, 0, 1);
    chance(x, 5, 9, 0, 0, 11, 16);
    chance(x, 4, 0, 0, 1, 1, 1);
    chance(x, 4, 1, 0, 1, 3, 4);
    chance(x, 4, 9, 1, 9, 1, 4);
    chance(x, 0, 9, 0, 9, 1, 1);
    chance(x, 16, 9, 0, 9, 0, 1);
    chance(x, 16, 9, 1, 9, 1, 1);
    int[][] bad = {{-1, 0, 0, 0, 0}, {17, 0, 0, 0, 0}, {1, -1, 0, 0, 0}, {1, 10, 0, 0, 0}, {1, 0, -1, 0, 0}, {1, 0, 3, 0, 0}, {1, 0, 0, -1, 0},
        {1, 0, 0, 10, 0}, {1, 0, 0, 0, -1}, {1, 0, 0, 0, 2}};
    for (int k = 0; k < bad.length; k++) {
      int[] b = bad[k];
      due("28 ajar, bad " + k, x.ajar(b[0], b[1], b[2], b[3], b[4]), LONG_BAD);
    }
    x.fold(1, 0, 0);
    chance(x, 4, 9, 0, 0, 3, 4);
    chance(x, 4, 9, 0, 1, 1, 1);
    x.wipe(1);
    chance(x, 4, 9, 0, 9, 0, 1);
  }

  private static void evenings() {
    LinenHouse x = house("s0abc", "ab1ac1");
    due("29 evenings(1, 0)", x.evenings(1, 0), 1);
    due("29 evenings(1, 1)", x.evenings(1, 1), 0);
    due("29 evenings(1, 2)", x.evenings(1, 2), BAD);
    due("29 evenings(1, -1)", x.evenings(1, -1), BAD);
    due("29 member(0, 2), as before", x.member(0, 2), 0);
    // The lots of -1 are 1, 5, 4, 2: acb, cba, cab, bac; the speaker tells on NIGHTS 0 and 2.
    LinenHouse y = house("d0cba;d0cba;d0cba;s0cba", "ab1cb1bc2");
    due("29 evenings(-1, 0)", y.evenings(-1, 0), 1);
    due("29 evenings(-1, 1)", y.evenings(-1, 1), 2);
    // The lots of 1 are 2, 0: bac, abc; folds tell who is the speaker.
    LinenHouse z = house("s0abc;s1abc", "ab1");
    due("29 evenings(1, 0), as at first", z.evenings(1, 0), 1);
    due("29 evenings(1, 1), as at first", z.evenings(1, 1), 1);
    z.fold(0, 0, 2);
    due("29 evenings(1, 0), folded", z.evenings(1, 0), 0);
    due("29 evenings(1, 1), folded", z.evenings(1, 1), 0);
    x.wipe(1);
    due("29 evenings(1, 0), no motions", x.evenings(1, 0), 0);
    due("29 evenings(1, 1), no motions", x.evenings(1, 1), NONE);
  }

  private static void sheetAndLose() {
    LinenHouse x = new LinenHouse();
    due("30 sheet(4, 0, 1)", x.sheet(4, 0, 1), BAD);
    due("30 sheet(-1, 0, -1)", x.sheet(-1, 0, -1), BAD);
    due("30 sheet(0, 3, 1)", x.sheet(0, 3, 1), BAD);
    due("30 sheet(0, -1, 1)", x.sheet(0, -1, 1), BAD);
    due("30 sheet(0, 0, 61)", x.sheet(0, 0, 61), BAD);
    due("30 count(8)", x.count(8), 0);
    due("30 sheet(0, 0, -1)", x.sheet(0, 0, -1), SIZE);
    due("30 count(8)", x.count(8), 5);
    due("31 lose(0)", x.lose(0), NULL);
    due("31 count(8)", x.count(8), 1);
    due("30 sheet(0, 0, 60)", x.sheet(0, 0, 60), 60);
    due("32 put(0, 0, 59, 7)", x.put(0, 0, 59, 7), 1);
    due("30 sheet(0, 0, -9), kept", x.sheet(0, 0, -9), SIZE);
    due("33 get(0, 0, 59)", x.get(0, 0, 59), 7);
    due("30 sheet(0, 2, 60), anew", x.sheet(0, 2, 60), 60);
    due("33 get(0, 2, 59)", x.get(0, 2, 59), 0);
    due("30 sheet(3, 1, 0)", x.sheet(3, 1, 0), 0);
    due("31 lose(3)", x.lose(3), 0);
    due("31 lose(3)", x.lose(3), NULL);
    due("31 lose(0)", x.lose(0), 60);
    due("31 lose(4)", x.lose(4), BAD);
    due("31 lose(-1)", x.lose(-1), BAD);
  }

  private static void putAndGet() {
    LinenHouse x = new LinenHouse();
    for (int form = 0; form < 3; form++) x.sheet(form, form, 2);
    int[] v = {127, 128, 255, 256, -129, 40000, -40000, 65536 + 5, Integer.MAX_VALUE, Integer.MIN_VALUE};
    for (int k = 0; k < v.length; k++) {
      int[] kept = {(byte) v[k], (short) v[k], v[k]};
      for (int form = 0; form < 3; form++) {
        due("32 put(" + form + ", 1, " + v[k] + ")", x.put(form, form, 1, v[k]), 1);
        due("33 get(" + form + ", 1), " + v[k], x.get(form, form, 1), kept[form]);
        due("33 get(" + form + ", 0)", x.get(form, form, 0), 0);
      }
    }
    int[][] wrongs = {{-1, 0, 0, BAD, 0}, {4, 0, 0, BAD, 0}, {0, -1, 0, BAD, 0}, {3, 3, 0, BAD, 0}, {3, 0, 9, NULL, 1}, {0, 1, 9, CAST, 3}, {0, 0, 2, INDEX, 2},
        {2, 1, -1, CAST, 3}, {2, 2, -1, INDEX, 2}, {1, 1, Integer.MAX_VALUE, INDEX, 2}};
    for (int[] w : wrongs) {
      int before = x.count(8), found = w[4] == 0 ? before : w[4];
      due("32 put(" + w[0] + ", " + w[1] + ", " + w[2] + ")", x.put(w[0], w[1], w[2], 1), w[3]);
      due("32 count(8)", x.count(8), found);
      x.sheet(0, 0, -1);
      due("33 get(" + w[0] + ", " + w[1] + ", " + w[2] + ")", x.get(w[0], w[1], w[2]), LEAST);
      due("33 count(8)", x.count(8), w[4] == 0 ? 5 : w[4]);
    }
  }

  private static void copy() {
    LinenHouse x = new LinenHouse();
    x.sheet(0, 1, 5);
    x.sheet(1, 1, 3);
    x.sheet(2, 2, 5);
    for (int i = 0; i < 5; i++) x.put(0, 1, i, i + 1);
    due("34 copy(0, 0, 0, 1, 4), over itself", x.copy(0, 0, 0, 1, 4), 1);
    int[] moved = {1, 1, 2, 3, 4};
    for (int i = 0; i < 5; i++) due("34 get(0, 1, " + i + ")", x.get(0, 1, i), moved[i]);
    due("34 copy(0, 2, 1, 0, 3)", x.copy(0, 2, 1, 0, 3), 1);
    for (int i = 0; i < 3; i++) due("34 get(1, 1, " + i + ")", x.get(1, 1, i), i + 2);
    due("34 copy(0, 5, 1, 3, 0), nothing", x.copy(0, 5, 1, 3, 0), 1);
    int big = Integer.MAX_VALUE;
    int[][] wrongs = {{-1, 0, 3, 0, 1, BAD}, {4, 0, 3, 0, 1, BAD}, {3, 0, -1, 0, 1, BAD}, {3, 0, 4, 0, 1, BAD}, {3, -1, 0, 0, 1, NULL}, {0, 0, 3, 0, 1, NULL},
        {0, -1, 2, 0, 1, STORE}, {0, 0, 2, 0, 0, STORE}, {0, -1, 1, 0, 1, INDEX}, {0, 0, 1, -1, 1, INDEX}, {0, 0, 1, 0, -1, INDEX}, {0, 0, 1, 0, 4, INDEX},
        {0, 3, 1, 0, 3, INDEX}, {0, 0, 1, 1, 3, INDEX}, {0, 6, 1, 0, 0, INDEX}, {0, 0, 1, 4, 0, INDEX}, {0, big, 1, 0, big, INDEX}, {0, 1, 1, big, big, INDEX},
        {0, LEAST, 1, 0, LEAST, INDEX}};
    for (int[] w : wrongs) {
      int found = w[5] == BAD ? x.count(8) : -10 - w[5];
      String call = "34 copy(" + w[0] + ", " + w[1] + ", " + w[2] + ", " + w[3] + ", " + w[4] + ")";
      due(call, x.copy(w[0], w[1], w[2], w[3], w[4]), w[5]);
      due(call + " count(8)", x.count(8), found);
    }
    for (int i = 0; i < 3; i++) due("34 get(1, 1, " + i + "), as before", x.get(1, 1, i), i + 2);
  }

  private static void write() {
    LinenHouse x = house("s0cab", "ab1bc1ba2");
    due("35 write(4)", x.write(4), BAD);
    due("35 write(-1)", x.write(-1), BAD);
    due("35 write(0)", x.write(0), NULL);
    due("35 count(8)", x.count(8), 1);
    int[] carried = {0, 2, 0, -1, -1, -1, -1, -1, -1, -1, 9, 9};
    for (int form = 0; form < 3; form++) {
      x.sheet(form, form, 12);
      for (int i = 0; i < 12; i++) x.put(form, form, i, 9);
      due("35 write(" + form + ")", x.write(form), 10);
      for (int i = 0; i < 12; i++) due("35 get(" + form + ", " + form + ", " + i + ")", x.get(form, form, i), carried[i]);
    }
    x.sheet(3, 0, 2);
    due("35 write(3)", x.write(3), 2);
    due("35 get(3, 0, 1)", x.get(3, 0, 1), 2);
    x.sheet(3, 0, 0);
    due("35 write(3), no items", x.write(3), 0);
  }

  private static void count() {
    LinenHouse x = house("s0cab;b0abc", "ab1bc1ba2");
    x.fold(0, 0, 0);
    x.jar(0);
    x.jar(1);
    x.seen(0, 0);
    x.put(0, 0, 0, 0);
    int[] counts = {2, 3, 11, 9, 1, 2, 5, 1, 1};
    for (int what = 0; what <= 8; what++) due("36 count(" + what + ")", x.count(what), counts[what]);
    due("36 count(-1)", x.count(-1), BAD);
    due("36 count(9)", x.count(9), BAD);
    x.type(0, ';');
    x.type(1, ';');
    int[] faulty = {0, 0, 12, 10, 1, 2, 0, 1, 1};
    for (int what = 0; what <= 8; what++) due("36 count(" + what + "), faults", x.count(what), faulty[what]);
  }

  private static long digestOf(LinenHouse x) {
    long h = 17;
    for (int what = 0; what <= 7; what++) h = 31 * h + x.count(what);
    h = 31 * h + x.fault(0);
    h = 31 * h + x.fault(1);
    for (int m = 0; m < x.count(0); m++) {
      for (int what = 0; what <= 4; what++) h = 31 * h + x.member(m, what);
      for (int n = 0; n <= 9; n++) {
        if (n != 0 && n != 4 && n != 9) continue;
        for (int what = 0; what <= 2; what++) h = 31 * h + x.lies(n, m, what);
        h = 31 * h + x.sham(n, m);
      }
      h = 31 * (31 * h + x.power(m, 0)) + x.power(m, 1);
      h = 31 * (31 * h + x.would(m)) + x.ask(m);
    }
    for (int n = 0; n <= 9; n++) {
      for (int what = 0; what <= 2; what++) h = 31 * h + x.motion(n, what);
      for (int what = 0; what <= 3; what++) h = 31 * h + x.vote(n, what);
      h = 31 * h + x.house(n);
      h = 31 * (31 * h + x.lift(n, NONE)) + x.lift(n, 0);
    }
    h = 31 * (31 * h + x.told()) + x.pleased();
    for (int one = 0; one <= 2; one++) h = 31 * h + x.agenda(one);
    h = 31 * (31 * h + x.ring()) + x.never();
    h = 31 * (31 * h + x.ajar(5, 5, 1, 7, 0)) + x.ajar(5, 5, 1, 7, 1);
    return 31 * (31 * h + x.evenings(7, 0)) + x.evenings(7, 1);
  }

  private static LinenHouse digested() {
    LinenHouse x = house("s1abc;s3bca;b2cab;b4cba;d5acb;d5bac;d4cab;d3abc", "ab1bc2ca1ba2ac1cb2ab2bc1ac2ca1");
    x.fold(1, 4, 0);
    x.fold(7, 4, 4);
    x.jar(2);
    x.seen(0, 0);
    return x;
  }

  private static void digest() {
    LinenHouse x = digested();
    due("37 digest()", x.digest(), digestOf(digested()));
    due("37 digest(), again", x.digest(), digestOf(digested()));
    LinenHouse empty = new LinenHouse();
    due("37 digest(), empty", empty.digest(), digestOf(empty));
    long before = empty.digest();
    empty.sheet(0, 0, -1);
    due("37 digest(), a finding", empty.digest(), before);
  }

  public static void main(String[] args) {
    newObject();
    type();
    wipeAndUndo();
    fault();
    memberAndMotion();
    weight();
    foldJarBack();
    read();
    lies();
    voteAndHouse();
    toldAndPleased();
    lift();
    agenda();
    power();
    ring();
    sham();
    seenAndForget();
    neverWouldAsk();
    ajar();
    evenings();
    sheetAndLose();
    putAndGet();
    copy();
    write();
    count();
    digest();
    System.out.println(checks + " checks, " + wrong + " answers not as due");
    if (wrong != 0) System.exit(1);
  }
}
