import java.io.IOException;
import java.lang.reflect.Method;
import java.nio.file.Files;
import java.nio.file.Path;
import java.util.ArrayList;
import java.util.List;

/**
 * The document from its first line to its last: each sentence is told by said() and stands ahead of the answers that
 * would not come if it were broken, found by hand. If the document has words that are told by none of them, a remark is
 * printed: then a sentence has no test yet.
 */
public final class DocumentTest {
  private static final int NONE = LinenHouse.NONE, BAD = LinenHouse.BAD, NOT = LinenHouse.NOT, FULL = LinenHouse.FULL;
  private static final int NULL = -11, INDEX = -12, CAST = -13, STORE = -14, SIZE = -15;
  private static final int LEAST = Integer.MIN_VALUE;
  private static final long LONG_BAD = Long.MIN_VALUE + 2;
  private static final String EIGHT = "s0abc;b1acb;d2bac;s3bca;b4cab;d5cba;s0bac;d5abc", TEN = "ab1bc2ca1ba2ac1cb2ab2bc1ac2ca1";
  private static final List<String> SAID = new ArrayList<>();
  private static int wrong = 0, checks = 0;

  private interface Act {
    long on(LinenHouse x);
  }

  private interface State {
    LinenHouse make();
  }

  /** The next words of the document. */
  private static void said(String words) {
    SAID.add(plain(words));
  }

  private static String plain(String words) {
    return words.replace("```java", " ").replace("```text", " ").replace("```", " ").replaceAll("\\s+", " ").trim();
  }

  private static void due(String call, long got, long want) {
    checks++;
    if (got == want) return;
    wrong++;
    String sentence = SAID.get(SAID.size() - 1);
    System.out.println(call + " answered " + got + ", due is " + want + ": " + sentence.substring(0, Math.min(80, sentence.length())));
  }

  private static void holds(String what, boolean so) {
    due(what, so ? 1 : 0, 1);
  }

  private static LinenHouse house(String members, String motions) {
    LinenHouse x = new LinenHouse();
    typeAll(x, 0, members);
    typeAll(x, 1, motions);
    return x;
  }

  private static void typeAll(LinenHouse x, int text, String all) {
    for (int i = 0; i < all.length(); i++) x.type(text, all.charAt(i));
  }

  private static void faultOf(int text, String all, int place) {
    LinenHouse x = new LinenHouse();
    typeAll(x, text, all);
    due("fault(" + text + ") of " + all, x.fault(text), place);
  }

  private static void votes(LinenHouse x, int night, int... want) {
    for (int m = 0; m < want.length; m++) due("lies(" + night + ", " + m + ", 2)", x.lies(night, m, 2), want[m]);
  }

  private static void vote(LinenHouse x, int night, int firsts, int difference, int carries, int speaker) {
    int[] want = {firsts, difference, carries, speaker};
    for (int what = 0; what < 4; what++) due("vote(" + night + ", " + what + ")", x.vote(night, what), want[what]);
  }

  private static void lift(LinenHouse x, int night, int many, int first, int second) {
    int[] want = {many, first, second};
    for (int i = NONE; i <= 1; i++) due("lift(" + night + ", " + i + ")", x.lift(night, i), want[i + 1]);
  }

  private static void power(LinenHouse x, int member, int above, int below) {
    due("power(" + member + ", 0)", x.power(member, 0), above);
    due("power(" + member + ", 1)", x.power(member, 1), below);
  }

  private static void ajar(LinenHouse x, int c, int last, int one, int night, int above, int below) {
    String call = "ajar(" + c + ", " + last + ", " + one + ", " + night + ", ";
    due(call + "0)", x.ajar(c, last, one, night, 0), above);
    due(call + "1)", x.ajar(c, last, one, night, 1), below);
  }

  private static void counts(LinenHouse x, int... want) {
    for (int what = 0; what < want.length; what++) due("count(" + what + ")", x.count(what), want[what]);
  }

  // ---- what it is, the public face

  private static void whatItIs() {
    said("# LinenHouse");
    said("## What it is");
    said("""
        The linen cupboard is a parliament: sheets on the top shelf, by the pipe, warm, with lavender, and down through bolsters to the dusters, who are in
        the majority, and it is put to them what sort of a house it will be, nightly, by the folding, an old damask cloth, the Speaker, lies with his ends
        under, a tea-cosy crossed over, when the door is left on the jar the whole passage goes liberal, maids are sworn, somebody got in a foreign flannel on
        the nod; members as a text, of what sort, on which shelf, what each would have first, second, last; motions as a text, night by night; foldings, jars;
        who leans whither by whom it lies with and how warm it is, what carries on each night, what the house then is; the fewest foldings by which a motion
        carries, the agenda by which a told one is left, how much each has to say, as fractions over all orders; rings of wants; who would gain by shamming;
        what one would have had, by what carried, the next night to ask; jars by chance, exactly; other orders by a seed; foldings undone.""");
    LinenHouse x = house("s0abc;b4bca;d5cab;d5cba;d5cab", "ab1bc2ca1");
    votes(x, 0, 0, 1, 0, 0, 0);
    votes(x, 1, 0, 0, 1, 1, 1);
    vote(x, 0, 4, 3, 0, 0);
    vote(x, 1, 2, 2, 1, 0);
    vote(x, 2, 4, 3, 2, 0);
    for (int n = 0; n < 10; n++) due("house(" + n + ")", x.house(n), Math.min(n, 2));
    due("fold(1, 0, 5)", x.fold(1, 0, 5), 1);
    votes(x, 1, 1, 0, 1, 1, 1);
    vote(x, 1, 1, 4, 2, 1);
    due("back(0)", x.back(0), 0);
    vote(x, 1, 2, 2, 1, 0);
    said("""
        ======== 1 MEMBERS are a text of up to 47 bytes (text 0), 8 at most (0 on), with ; between them: s (a sheet), b (a bolster) or d (a duster), a figure
        0 to 5, its SHELF (0 the top one), and three letters, a, b and c each once: what it WOULD have best, second, last (0 to 2).""");
    LinenHouse eight = new LinenHouse();
    for (int i = 0; i < 47; i++) due("type(0), byte " + i, eight.type(0, EIGHT.charAt(i)), i + 1);
    due("type(0), byte 47", eight.type(0, ';'), FULL);
    due("fault(0)", eight.fault(0), NONE);
    due("count(0)", eight.count(0), 8);
    for (int m = 0; m < 8; m++) {
      String told = EIGHT.substring(6 * m, 6 * m + 5);
      int[] want = {"sbd".indexOf(told.charAt(0)), told.charAt(1) - '0', told.charAt(2) - 'a', told.charAt(3) - 'a', told.charAt(4) - 'a'};
      for (int what = 0; what < 5; what++) due("member(" + m + ", " + what + ")", eight.member(m, what), want[what]);
    }
    due("lies(0, 0, 1), the top one", eight.lies(0, 0, 1), 5);
    due("lies(0, 5, 1), the lowest one", eight.lies(0, 5, 1), 0);
    for (String wrongText : new String[] {"x0abc", "s6abc", "s0dbc", "s0aac", "s0abb", "s0abc,b0abc", "0sabc", "s0ab", "s0abc;"}) {
      due("count(0) of " + wrongText, house(wrongText, "").count(0), 0);
    }
    said("An object is used for at most 512 calls after it has been made; what later calls answer is free.");
    LinenHouse old = full();
    for (int k = 0; k < 5000; k++) QUESTIONS[k % QUESTIONS.length].on(old);
    for (int k = 0; k < 600; k++) old.type(0, k % 256);
  }

  private static final String[] FACE = {"int type(int text, int b)", "int wipe(int text)", "int undo(int text)", "int fault(int text)",
      "int member(int member, int what)", "int motion(int night, int what)", "int weight(int sort, int v)", "int fold(int night, int member, int shelf)",
      "int jar(int night)", "int back(int what)", "int read(int s)", "int lies(int night, int member, int what)", "int vote(int night, int what)",
      "int house(int night)", "int told()", "int pleased()", "int lift(int night, int i)", "int agenda(int one)", "long power(int member, int what)",
      "int ring()", "int sham(int night, int member)", "int seen(int night, int one)", "int forget()", "int never()", "int would(int member)",
      "int ask(int member)", "long ajar(int c, int last, int one, int night, int what)", "int evenings(int seed, int what)",
      "int sheet(int s, int form, int n)", "int lose(int s)", "int put(int s, int form, int i, int v)", "int get(int s, int form, int i)",
      "int copy(int s, int i, int t, int j, int n)", "int write(int s)", "int count(int what)", "long digest()"};

  private static void publicFace() throws Exception {
    said("## The public face");
    said("public final class LinenHouse { public static final int NONE = -1, BAD = -2, NOT = -3, FULL = -4; public LinenHouse();");
    String[] names = {"NONE", "BAD", "NOT", "FULL"};
    for (int k = 0; k < 4; k++) due(names[k], LinenHouse.class.getField(names[k]).getInt(null), -1 - k);
    for (String head : FACE) {
      said("public " + head + ";");
      String[] answerAndName = head.substring(0, head.indexOf('(')).split(" ");
      Class<?>[] ints = new Class<?>[head.length() - head.replace("int ", "in ").length() - (answerAndName[0].equals("int") ? 1 : 0)];
      java.util.Arrays.fill(ints, int.class);
      Method m = LinenHouse.class.getMethod(answerAndName[1], ints);
      holds(head + " answers so", m.getReturnType().getName().equals(answerAndName[0]));
    }
    said("}");
  }

  // ---- terms, part 1

  private static void texts() {
    said("## Terms");
    said("""
        MOTIONS are a text of up to 30 bytes (text 1), 10 at most, NIGHTS 0 on, of three bytes each: two letters, a to c, unlike, that are put to them, then 1
        (by most MEMBERS) or 2 (by WEIGHT).""");
    LinenHouse ten = new LinenHouse();
    for (int i = 0; i < 30; i++) due("type(1), byte " + i, ten.type(1, TEN.charAt(i)), i + 1);
    due("type(1), byte 30", ten.type(1, 'a'), FULL);
    due("count(1)", ten.count(1), 10);
    for (int n = 0; n < 10; n++) {
      for (int what = 0; what < 3; what++) {
        due("motion(" + n + ", " + what + ")", ten.motion(n, what), TEN.charAt(3 * n + what) - (what == 2 ? '0' : 'a'));
      }
    }
    LinenHouse x = house("s0abc;d0bac;d0bac", "ab1ab2ba2");
    vote(x, 0, 1, 1, 1, 0);
    vote(x, 1, 1, 1, 0, 0);
    vote(x, 2, 2, 1, 0, 0);
    for (String wrongText : new String[] {"aa1", "ad1", "ab0", "ab3", "ab", "1ab", "ab1;bc1"}) {
      due("count(1) of " + wrongText, house("", wrongText).count(1), 0);
    }
    said("""
        The FAULT of a text is the place of the first byte with which it cannot go on (an empty one is well; of one that is not ended, its end), here also of
        a letter that is told again, of the first byte of a ninth.""");
    faultOf(0, "s0abc;b6abc;x", 7);
    faultOf(0, "", NONE);
    faultOf(1, "", NONE);
    faultOf(0, "s0abc;b", 7);
    faultOf(0, "s0abc;", 6);
    faultOf(0, "s0abc;b0cbc", 10);
    faultOf(0, "s0abc;b0ccb", 9);
    faultOf(1, "ab1b", 4);
    faultOf(1, "ab1bc", 5);
    faultOf(1, "ab1bb1", 4);
    faultOf(1, "ab1;", 3);
    // The first byte of a ninth cannot come: 47 bytes hold eight.
    LinenHouse eight = house(EIGHT, "");
    due("type(0, 's') behind eight", eight.type(0, 's'), FULL);
    due("fault(0)", eight.fault(0), NONE);
    said("With a FAULT a text is as if it was empty.");
    LinenHouse faulty = house("s0abc;b0bac", "ab1");
    faulty.fold(0, 0, 5);
    faulty.type(0, ';');
    counts(faulty, 0, 1, 12, 3, 1, 0, 0, 0);
    due("power(0, 0)", faulty.power(0, 0), LONG_BAD);
    due("lies(0, 0, 0)", faulty.lies(0, 0, 0), BAD);
    for (int one = 0; one < 3; one++) due("agenda(" + one + ")", faulty.agenda(one), NONE);
    due("house(9)", faulty.house(9), NONE);
    faulty.undo(0);
    due("count(0), well again", faulty.count(0), 2);
    due("lies(0, 0, 0), the fold is still there", faulty.lies(0, 0, 0), 5);
    faulty.type(1, 'a');
    due("vote(0, 2), no motion", faulty.vote(0, 2), NONE);
    due("sham(0, 0), no motion", faulty.sham(0, 0), NONE);
    due("lift(0, NONE), no motion", faulty.lift(0, NONE), NONE);
    due("evenings(1, 1), no motion", faulty.evenings(1, 1), NONE);
    due("power(0, 0), the members are well", faulty.power(0, 0), 1);
  }

  private static void nightsFoldsJars() {
    said("NIGHTS are 0 to 9.");
    LinenHouse x = house(EIGHT, TEN);
    for (int night : new int[] {-1, 0, 9, 10}) {
      boolean is = night >= 0 && night <= 9;
      int[] answers = {x.motion(night, 0), x.fold(night, 0, 0), x.jar(night), x.lies(night, 0, 0), x.vote(night, 0), x.house(night), x.lift(night, 1),
          x.sham(night, 0), x.seen(night, 0)};
      for (int answer : answers) holds("a call on NIGHT " + night + " answers " + answer, is == (answer != BAD));
      for (int what = 0; what < 2; what++) {
        holds("ajar up to NIGHT " + night, is == (x.ajar(1, night, 0, 0, what) != LONG_BAD));
        holds("ajar behind NIGHT " + night, is == (x.ajar(1, 0, 0, night, what) != LONG_BAD));
      }
    }
    said("WEIGHT of a sort (0 s, 1 b, 2 d: 0 to 9; 3, 2, 1 at first).");
    LinenHouse w = house("s0abc;b0abc;d0abc;d0abc", "ab2");
    due("vote(0, 1)", w.vote(0, 1), 7);
    due("weight(0, 9)", w.weight(0, 9), 3);
    due("vote(0, 1)", w.vote(0, 1), 13);
    due("weight(1, 0)", w.weight(1, 0), 2);
    due("vote(0, 1)", w.vote(0, 1), 11);
    due("weight(2, 9)", w.weight(2, 9), 1);
    due("vote(0, 1)", w.vote(0, 1), 27);
    due("weight(3, 0)", w.weight(3, 0), BAD);
    due("weight(0, 10)", w.weight(0, 10), BAD);
    said("FOLDS, 8 at most (0 on): ahead of a NIGHT a MEMBER (0 to 7) comes to a SHELF (0 to 5), and stays there.");
    LinenHouse f = house("s0abc;s1abc", "");
    f.fold(6, 0, 4);
    f.fold(3, 0, 2);
    f.fold(8, 0, 3);
    f.fold(8, 0, 5);
    int[] shelves = {0, 0, 0, 2, 2, 2, 4, 4, 5, 5};
    for (int n = 0; n < 10; n++) due("lies(" + n + ", 0, 0)", f.lies(n, 0, 0), shelves[n]);
    for (int n = 0; n < 10; n++) due("lies(" + n + ", 1, 0)", f.lies(n, 1, 0), 1);
    for (int k = 5; k <= 8; k++) due("fold(0, 7, 0)", f.fold(0, 7, 0), k);
    due("fold(0, 7, 0), the ninth", f.fold(0, 7, 0), FULL);
    said("JARS, 6 at most (0 on): on a NIGHT the door is on the jar.");
    LinenHouse j = house("s0abc", "");
    for (int k = 1; k <= 6; k++) due("jar(4)", j.jar(4), k);
    due("jar(4), the seventh", j.jar(4), FULL);
    for (int n = 0; n < 10; n++) due("lies(" + n + ", 0, 1)", j.lies(n, 0, 1), n == 4 ? 2 : 5);
  }

  private static void warmAndLeans() {
    said("WARM is a MEMBER on a NIGHT by 5 less its SHELF, less 3 on one with a JAR (or more of these), 0 at least.");
    LinenHouse x = house("d0abc;d1abc;d2abc;d3abc;d4abc;d5abc", "");
    x.jar(1);
    x.jar(2);
    x.jar(2);
    int[][] warm = {{5, 4, 3, 2, 1, 0}, {2, 1, 0, 0, 0, 0}, {2, 1, 0, 0, 0, 0}};
    for (int n = 0; n < 3; n++) for (int m = 0; m < 6; m++) due("lies(" + n + ", " + m + ", 1)", x.lies(n, m, 1), warm[n][m]);
    said("""
        It LEANS to what it WOULD have, if it is WARM by 2 or more; else as most of the MEMBERS that lie on its SHELF would, of the two that are put (that of
        which more of them WOULD rather have, itself, too; of like many as itself).""");
    // Shelf 3 is warm enough, shelf 4 is not; c, which is not put, has no say.
    LinenHouse near = house("d3bac;d3abc;d3abc;d4bac;d4abc;d4cab;d5bac;d5cab", "ab1bc1");
    votes(near, 0, 1, 0, 0, 0, 0, 0, 1, 0);
    votes(near, 1, 0, 0, 0, 0, 0, 0, 0, 1);
    // With a jar the top shelf alone leans by itself.
    LinenHouse jarred = house("s0bac;s0abc;s0abc;s1bac;s1abc;s1abc", "ab1ab1");
    jarred.jar(1);
    votes(jarred, 0, 1, 0, 0, 1, 0, 0);
    votes(jarred, 1, 1, 0, 0, 0, 0, 0);
    // It lies where it is folded to: alone, then with two that would have a.
    LinenHouse folded = house("d4bac;d5abc;d5abc", "ab1ab1");
    folded.fold(1, 0, 5);
    votes(folded, 0, 1, 0, 0);
    votes(folded, 1, 0, 0, 0);
  }

  private static void carriesAndHouse() {
    said("""
        On a NIGHT all vote as they LEAN, for the first or the other one; the one with more (MEMBERS, or their WEIGHT) CARRIES; of like many the SPEAKER (the
        least MEMBER on the highest SHELF on which any lies then) tells, by its own vote.""");
    // Three lean to b on shelf 4, three to a on shelf 5: the speaker would have a, but votes for b.
    LinenHouse x = house("d5abc;d4abc;d4bac;d4bac;d5abc;d5abc", "ab1ab1ab2");
    x.fold(1, 5, 2);
    vote(x, 0, 3, 0, 1, 1);
    vote(x, 1, 3, 0, 0, 5);
    vote(x, 2, 3, 0, 0, 5);
    LinenHouse w = house("s0abc;b0bac;d0bac;d0bac", "ab1ab2ba1ba2");
    vote(w, 0, 1, 2, 1, 0);
    vote(w, 1, 1, 1, 1, 0);
    vote(w, 2, 3, 2, 1, 0);
    w.weight(0, 4);
    vote(w, 3, 3, 0, 0, 0);
    said("With no MEMBERS nothing CARRIES.");
    LinenHouse none = house("", TEN);
    for (int n = 0; n < 10; n++) for (int what = 0; what < 4; what++) due("vote(" + n + ", " + what + ")", none.vote(n, what), NONE);
    said("THE HOUSE is behind a NIGHT what CARRIED last up to it; NONE: nothing yet.");
    LinenHouse h = house("s0cab", "ab1bc1ba1bc2");
    int[] houses = {0, 2, 0, 2, 2, 2, 2, 2, 2, 2};
    for (int n = 0; n < 10; n++) due("house(" + n + ")", h.house(n), houses[n]);
    for (int n = 0; n < 10; n++) due("house(" + n + "), no members", none.house(n), NONE);
    for (int n = 0; n < 10; n++) due("house(" + n + "), no motions", house("s0cab", "").house(n), NONE);
  }

  private static void fractionsLotsSheets() {
    said("FRACTIONS are told in lowest terms, above and below (0 by 1).");
    LinenHouse x = house("s1abc;s1bac;s1bac;d0abc;d0abc", "ab1");
    int[][] lowest = {{0, 1}, {1, 16}, {1, 8}, {3, 16}, {1, 4}, {5, 16}, {3, 8}, {7, 16}, {1, 2}, {9, 16}, {5, 8}, {11, 16}, {3, 4}, {13, 16}, {7, 8}, {15, 16},
        {1, 1}};
    for (int c = 0; c <= 16; c++) ajar(x, c, 0, 1, 0, lowest[c][0], lowest[c][1]);
    power(house("s0abc;d0abc", ""), 1, 0, 1);
    said("""
        LOTS of m: SEED becomes 1103515245 SEED and 12345, as ints that wrap; its upper 16 bits as a number from 0 on, modulo m.""");
    // Nobody has weight, so the one on the top shelf tells: its lot of 6 is the order.
    int[] seeds = {0, 1, 7, -5, Integer.MAX_VALUE, 2026};
    int[][] lots = {{0, 2, 0, 3, 0, 3, 1, 3}, {2, 0, 3, 3, 3, 1, 2, 5}, {0, 2, 2, 0, 5, 1, 0, 2}, {2, 1, 5, 2, 4, 1, 0, 2}, {5, 1, 0, 0, 3, 2, 2, 5},
        {0, 0, 3, 4, 4, 5, 4, 3}};
    String[] orders = {"abc", "acb", "bac", "bca", "cab", "cba"};
    for (int k = 0; k < seeds.length; k++) {
      for (int m = 0; m < 8; m++) {
        String order = orders[lots[k][m]];
        for (String pair : new String[] {"ab", "bc", "ca"}) {
          LinenHouse y = house("d1abc;d1abc;d1abc;d1abc;d1abc;d1abc;d1abc;d1abc", pair + "2");
          y.weight(2, 0);
          y.fold(0, m, 0);
          boolean first = order.indexOf(pair.charAt(0)) < order.indexOf(pair.charAt(1));
          due("evenings(" + seeds[k] + ", 1), member " + m + ", " + pair, y.evenings(seeds[k], 1), pair.charAt(first ? 0 : 1) - 'a');
        }
      }
    }
    said("SHEETS 0 .. 3 are LOST (at first) or a row of a FORM: 0 bytes, 1 shorts, 2 ints, of 0 to 60 items (0 at first).");
    LinenHouse s = new LinenHouse();
    int[] kept = {0x78, 0x5678, 0x12345678}, high = {-128, -32640, 32896};
    for (int sheet = 0; sheet < 4; sheet++) {
      int form = sheet % 3;
      due("lose(" + sheet + "), lost at first", s.lose(sheet), NULL);
      due("sheet(" + sheet + ", " + form + ", 60)", s.sheet(sheet, form, 60), 60);
      for (int i = 0; i < 60; i += 59) due("get, 0 at first", s.get(sheet, form, i), 0);
      due("put", s.put(sheet, form, 59, 0x12345678), 1);
      due("get, as many bits as it has", s.get(sheet, form, 59), kept[form]);
      due("put", s.put(sheet, form, 59, 32896), 1);
      due("get, its highest bit is its sign", s.get(sheet, form, 59), high[form]);
      due("sheet of no items", s.sheet(sheet, form, 0), 0);
      due("sheet of 61 items", s.sheet(sheet, form, 61), BAD);
    }
    due("sheet(4, 0, 1)", s.sheet(4, 0, 1), BAD);
    due("sheet(0, 3, 1)", s.sheet(0, 3, 1), BAD);
    said("""
        FINDINGS (answers -10 less the number; they change nothing but count() 8): 1 NULL: the SHEET is LOST; 2 INDEX: there is no such item; 3 CAST: it has
        another FORM; 4 STORE: unlike FORMS; 5 SIZE: below 0.""");
    LinenHouse f = new LinenHouse();
    f.sheet(1, 1, 2);
    f.sheet(2, 2, 2);
    due("count(8), none yet", f.count(8), 0);
    long digest = f.digest();
    int[] answers = {f.write(0), f.count(8), f.put(1, 1, 2, 9), f.count(8), f.put(1, 2, 0, 9), f.count(8), f.copy(1, 0, 2, 0, 1), f.count(8), f.sheet(1, 1, -1),
        f.count(8)};
    int[] want = {NULL, 1, INDEX, 2, CAST, 3, STORE, 4, SIZE, 5};
    for (int k = 0; k < want.length; k++) due("finding " + (k / 2 + 1), answers[k], want[k]);
    due("digest(), as it was", f.digest(), digest);
    for (int i = 0; i < 2; i++) due("get(1, 1, " + i + "), as it was", f.get(1, 1, i), 0);
  }

  // ---- parts 2 to 4

  private static void partTwo() {
    said("""
        ======== 2 On a NIGHT of a MEMBER: its SHELF; how WARM; for which it votes (0 the first, 1 the other one; NONE: there is no MOTION).""");
    LinenHouse x = house("s1abc;b1bca;d5cab;d5bac;d5cba", "ab1cb2");
    int[][] first = {{1, 4, 0}, {1, 4, 1}, {5, 0, 1}, {5, 0, 1}, {5, 0, 1}};
    for (int m = 0; m < 5; m++) for (int what = 0; what < 3; what++) due("lies(0, " + m + ", " + what + ")", x.lies(0, m, what), first[m][what]);
    votes(x, 1, 1, 1, 0, 0, 0);
    votes(x, 2, NONE, NONE, NONE, NONE, NONE);
    due("lies(9, 4, 0), without a motion, too", x.lies(9, 4, 0), 5);
    said("Of a MOTION: how many vote for the first; by how much it CARRIES (the difference); what CARRIES; the SPEAKER.");
    vote(x, 0, 1, 3, 1, 0);
    vote(x, 1, 3, 2, 1, 0);
    said("THE HOUSE behind a NIGHT.");
    for (int n = 0; n < 10; n++) due("house(" + n + ")", x.house(n), 1);
    said("TOLD: how many MOTIONS the SPEAKER tells.");
    due("told()", x.told(), 0);
    x.weight(1, 0);
    due("told(), 3 against 3", x.told(), 1);
    vote(x, 1, 3, 0, 1, 0);
    said("PLEASED: the MEMBER that votes for what CARRIES on most NIGHTS, of like ones the least; NONE.");
    due("pleased(), member 1 on both", x.pleased(), 1);
    due("pleased(), of like ones", house("s0abc;s0cba;s0bac;s0bca", "ab1bc1").pleased(), 2);
    due("pleased(), as it votes, not as it would", house("s0bca;d5abc;d5bac;d5bac;s0abc", "ab1").pleased(), 0);
    due("pleased(), nobody", house("", TEN).pleased(), NONE);
  }

  private static void partThree() {
    said("""
        ======== 3 FOLD for a MOTION: the fewest MEMBERS (0 to 2) that are to come to the top SHELF ahead of its NIGHT, behind all FOLDS, so that another one
        CARRIES, of like ones the least row (each more than the one ahead): how many; the i-th; NONE.""");
    lift(house("s1bac;d5abc;d5abc;d4bac;d4bac;d4abc", "ab1"), 0, 1, 5, NONE);
    lift(house("d5bac;d5abc;d5bac;d5abc;d5bac", "ab1"), 0, 2, 0, 2);
    lift(house("s0bac;d5abc;d5abc;d4bac;d4bac;d4abc", "ab1"), 0, NONE, NONE, NONE);
    LinenHouse x = house("s1bac;d5abc;d5abc;d4bac;d4bac;d0abc", "ab1ab1");
    x.fold(1, 5, 4);
    lift(x, 0, 1, 0, NONE);
    lift(x, 1, 1, 5, NONE);
    lift(x, 2, NONE, NONE, NONE);
    said("""
        AGENDA for one (0 to 2): two are put, then what CARRIED of them and the third, each by most MEMBERS, on SHELVES as at first, without JARS: the least
        pair to begin with (0: a b, 1: a c, 2: b c) by which that one is left at the end; NONE.""");
    // In a ring, whichever way, the one that is put last is left.
    for (int one = 0; one < 3; one++) {
      due("agenda(" + one + "), a ring", house("s0abc;s0bca;s0cab", "").agenda(one), 2 - one);
      due("agenda(" + one + "), a ring the other way", house("s0acb;s0cba;s0bac", "").agenda(one), 2 - one);
      due("agenda(" + one + "), no ring", house("s0bca;s0bca;s0cab", "").agenda(one), one == 1 ? 0 : NONE);
    }
    // b by most members; a by weight, by the folds, by the jar.
    String[] told = {"as it is", "folds", "a jar"};
    for (int k = 0; k < 3; k++) {
      LinenHouse y = house("s2abc;s2abc;s2bac;d0bac;d0bac", "ab1");
      for (int m = 0; m < 3 && k == 1; m++) y.fold(0, m, 5);
      if (k == 2) y.jar(0);
      due("house(0), " + told[k], y.house(0), k == 0 ? 1 : 0);
      for (int one = 0; one < 3; one++) due("agenda(" + one + "), " + told[k], y.agenda(one), one == 1 ? 0 : NONE);
    }
    said("""
        POWER of a MEMBER: of all orders in which MEMBERS might join, one behind the other, those in which the WEIGHTS of all ahead of it are no more than
        half of all together, and with its own more: a FRACTION of them.""");
    LinenHouse four = house("s0abc;b0abc;d0abc;d0abc", "");
    int[] below = {2, 6, 6, 6};
    for (int m = 0; m < 4; m++) power(four, m, 1, below[m]);
    four.weight(2, 0);
    four.weight(1, 3);
    int[] above = {1, 1, 0, 0}, half = {2, 2, 1, 1};
    for (int m = 0; m < 4; m++) power(four, m, above[m], half[m]);
    said("""
        RING: whether a, b, c beat each other round by most MEMBERS, as they WOULD have them: 1: a beats b, b c, c a; 2: the other way; 0.""");
    due("ring()", house("d5abc;d5bca;d5cab", "").ring(), 1);
    due("ring(), the other way", house("d5acb;d5cba;d5bac", "").ring(), 2);
    due("ring(), two beats of three", house("s0abc;s0abc;s0cab", "").ring(), 0);
    due("ring(), one of like many", house("s0abc;s0abc;s0bca;s0cab", "").ring(), 0);
    said("""
        SHAM of a MEMBER on a NIGHT: whether, had it alone voted otherwise, that of both CARRIES that it WOULD rather have, which does not, as it is.""");
    LinenHouse sham = house("d4abc;d4bac;d4bac;s0abc", "ab1ba1ab2");
    int[][] gains = {{1, 0, 0, 0}, {1, 0, 0, 0}, {0, 0, 0, 0}};
    for (int n = 0; n < 3; n++) for (int m = 0; m < 4; m++) due("sham(" + n + ", " + m + ")", sham.sham(n, m), gains[n][m]);
  }

  private static void partFour() {
    said("======== 4 SEEN, 8 at most: on a NIGHT one (0 to 2; 3: nothing) CARRIED.");
    LinenHouse x = new LinenHouse();
    for (int k = 0; k < 8; k++) due("seen", x.seen(k, k % 4), k + 1);
    due("seen, the ninth", x.seen(0, 0), FULL);
    due("seen(0, 4)", x.seen(0, 4), BAD);
    said("NEVER: FOLDS each of which, had it alone not been, makes all that was SEEN come out so, as bits.");
    LinenHouse y = house("s1abc;s1bac", "ab1ac1");
    y.fold(0, 1, 0);
    due("never(), nothing seen", y.never(), 1);
    y.fold(1, 0, 2);
    due("house(0)", y.house(0), 1);
    y.seen(0, 0);
    due("never(), without the first a carries", y.never(), 1);
    y.seen(5, 3);
    due("never(), nothing carries on NIGHT 5", y.never(), 1);
    said("WOULD of a MEMBER: orders (0 abc, 1 acb, 2 bac, 3 bca, 4 cab, 5 cba), in place of its own, likewise, as bits.");
    due("would(0), the other one tells", y.would(0), 0);
    due("would(1), a ahead of b", y.would(1), 1 + 2 + 16);
    String[] orders = {"abc", "acb", "bac", "bca", "cab", "cba"};
    for (int k = 0; k < 6; k++) {
      LinenHouse one = house("s0abc", "ab1bc1ca1");
      String[] pairs = {"ab", "bc", "ca"};
      for (int n = 0; n < 3; n++) {
        boolean first = orders[k].indexOf(pairs[n].charAt(0)) < orders[k].indexOf(pairs[n].charAt(1));
        one.seen(n, pairs[n].charAt(first ? 0 : 1) - 'a');
      }
      due("would(0), " + orders[k], one.would(0), 1 << k);
    }
    said("""
        ASK of a MEMBER: the NIGHT on which the greatest number of those orders by which like ones (or nothing) CARRY is least, of like ones the least.""");
    due("ask(1), abc, acb, cab: two and one on NIGHT 1", y.ask(1), 1);
    due("ask(0), no order is left", y.ask(0), 0);
    LinenHouse z = house("s0abc;s0abc;d5abc", "ab1ab1bc2bc2");
    due("ask(2), outvoted on every night", z.ask(2), 0);
    z.weight(0, 0);
    due("ask(2), it alone has weight", z.ask(2), 2);
    said("""
        AJAR: each NIGHT from 0 to a told one (0 to 9) has a JAR by c sixteenths (0 to 16), by itself, in place of JARS: the chance that THE HOUSE is one (0
        to 2) behind a NIGHT: a FRACTION.""");
    LinenHouse a = house("s1abc;s1bac;s1bac;d0abc;d0abc", "ab1ab1ab1");
    for (int n = 0; n < 3; n++) a.jar(n);
    due("house(2), jars", a.house(2), 1);
    for (int last = 0; last < 10; last++) {
      for (int n = 0; n < 10; n++) {
        boolean byChance = Math.min(n, 2) <= last;
        ajar(a, 6, last, 1, n, byChance ? 3 : 0, byChance ? 8 : 1);
        ajar(a, 6, last, 0, n, byChance ? 5 : 1, byChance ? 8 : 1);
      }
      ajar(a, 6, last, 2, 2, 0, 1);
    }
    due("ajar(17, ..)", a.ajar(17, 0, 0, 0, 0), LONG_BAD);
    said("""
        EVENINGS by a SEED: for each of MEMBERS a LOT of 6 is its order: how many MOTIONS CARRY otherwise than as told; what THE HOUSE is behind NIGHT 9;
        NONE.""");
    // The lots of 0 are 0, 2, 0: abc, bac, abc.
    LinenHouse e = house("s0cba;s0cba;s0cba", "ab1bc1ab1ac1ba1");
    due("evenings(0, 0)", e.evenings(0, 0), 5);
    due("evenings(0, 1)", e.evenings(0, 1), 0);
    LinenHouse like = house("s0abc;s0cba;s0abc", "ab1bc1cb1");
    due("evenings(0, 0), as told", like.evenings(0, 0), 0);
    due("evenings(0, 1), as told", like.evenings(0, 1), 1);
    due("evenings(0, 1), no motions", house("s0abc", "").evenings(0, 1), NONE);
  }

  // ---- refusals, the interface

  private static void refusals() throws IOException {
    said("""
        Refusals, the first that fits, in the order told at each act: BAD -2 (a number not as told, no such thing), NULL, NOT -3 (as told), FULL -4, other
        FINDINGS.""");
    LinenHouse x = full();
    x.lose(3);
    int[] answers = {x.type(0, 256), x.type(2, 0), x.type(0, 0), x.fold(0, 8, 0), x.fold(0, 0, 0), x.jar(10), x.jar(0), x.seen(0, 4), x.seen(0, 0), x.read(4),
        x.read(3), x.sheet(3, 3, -1), x.sheet(3, 2, -1), x.put(3, 3, 60, 0), x.put(3, 2, 60, 0), x.put(2, 1, 60, 0), x.put(2, 2, 60, 0), x.copy(3, -1, 4, 0, 1),
        x.copy(3, -1, 2, 0, 1), x.copy(1, -1, 2, 0, 1), x.copy(1, -1, 1, 0, 1)};
    int[] want = {BAD, BAD, FULL, BAD, FULL, BAD, FULL, BAD, FULL, BAD, NULL, BAD, SIZE, BAD, NULL, CAST, INDEX, BAD, NULL, STORE, INDEX};
    for (int k = 0; k < want.length; k++) due("refusal " + k, answers[k], want[k]);
    LinenHouse empty = new LinenHouse();
    int[] nots = {empty.undo(2), empty.undo(0), empty.undo(1), empty.back(2), empty.back(0), empty.back(1)}, due = {BAD, NOT, NOT, BAD, NOT, NOT};
    for (int k = 0; k < nots.length; k++) due("refusal of an empty one " + k, nots[k], due[k]);
    said("They change nothing (FINDINGS but count() 8).");
    LinenHouse y = full(), same = full();
    y.lose(3);
    same.lose(3);
    for (int k = 0; k < 20; k++) refuse(y, k);
    due("count(8)", y.count(8), 2);
    due("digest()", y.digest(), same.digest());
    for (int what = 0; what < 8; what++) due("count(" + what + ")", y.count(what), same.count(what));
    for (int s = 0; s < 3; s++) for (int i = 0; i < 60; i++) due("get(" + s + ", " + s + ", " + i + ")", y.get(s, s, i), same.get(s, s, i));
    said("Where the answer is a long, a refusal -x is the least long and x more.");
    due("power(8, 0)", x.power(8, 0), -9223372036854775806L);
    due("ajar(-1, 0, 0, 0, 0)", x.ajar(-1, 0, 0, 0, 0), -9223372036854775806L);
    interfaceSays();
  }

  private static void refuse(LinenHouse x, int k) {
    switch (k) {
      case 0: x.type(0, 97); break;
      case 1: x.type(1, 256); break;
      case 2: x.wipe(2); break;
      case 3: x.undo(-1); break;
      case 4: x.weight(0, 10); break;
      case 5: x.weight(3, 0); break;
      case 6: x.fold(0, 0, 0); break;
      case 7: x.fold(0, 0, 6); break;
      case 8: x.jar(0); break;
      case 9: x.back(2); break;
      case 10: x.read(3); break;
      case 11: x.seen(9, 3); break;
      case 12: x.seen(10, 3); break;
      case 13: x.sheet(0, 0, 61); break;
      case 14: x.sheet(0, 0, -1); break;
      case 15: x.lose(4); break;
      case 16: x.write(3); break;
      case 17: x.copy(0, 0, 1, 0, 60); break;
      case 18: x.put(0, 2, 0, 9); break;
      default: x.copy(0, 1, 0, 0, 60);
    }
  }

  private static void interfaceSays() throws IOException {
    String source = Files.readString(Path.of("src/main/java/LinenHouse.java"));
    String[] parts = {"members, motions, foldings, jars", "nights", "plans", "seen, chance, evenings", "sheets"};
    String[] calls = {"type, wipe, undo, fault, member, motion, weight, fold, jar, back, read", "lies, vote, house, told, pleased",
        "lift, agenda, power, ring, sham", "seen, forget, never, would, ask, ajar, evenings", "sheet, lose, put, get, copy, write, count, digest"};
    int at = 0;
    for (int k = 0; k < 5; k++) {
      said("Ahead of the calls `" + calls[k].replace(", ", "`, `") + "` the interface says: ---- " + parts[k] + ".");
      int head = source.indexOf("// ---- " + parts[k] + "\n", at);
      holds("---- " + parts[k] + " stands in the class", head > 0);
      at = Math.max(at, head);
      for (String call : calls[k].split(", ")) {
        int next = source.indexOf(" " + call + "(", source.indexOf("    public ", at));
        holds(call + " stands behind it, in its order", next > at);
        at = next;
      }
    }
  }

  // ---- the promises

  private static void promisesOfTexts() {
    said("## Promise 1: A new object `LinenHouse()`: No MEMBERS, no MOTIONS; all SHEETS are LOST.");
    LinenHouse used = full();
    used.weight(0, 9);
    LinenHouse x = new LinenHouse();
    counts(x, 0, 0, 0, 0, 0, 0, 0, 0, 0);
    for (int s = 0; s < 4; s++) due("write(" + s + ")", x.write(s), NULL);
    due("weight(0, 3), another object's is its own", x.weight(0, 3), 3);
    due("weight(0, 9), as it was left", used.weight(0, 9), 9);
    said("## Promise 2: type `int type(int text, int b)`: A byte (0 to 255) comes behind a text: how many. BAD; FULL.");
    due("type(0, 0)", x.type(0, 0), 1);
    due("type(0, 255)", x.type(0, 255), 2);
    due("type(1, 97)", x.type(1, 97), 1);
    due("type(0, 256)", x.type(0, 256), BAD);
    due("type(0, -1)", x.type(0, -1), BAD);
    due("type(-1, 0)", x.type(-1, 0), BAD);
    due("type(1, 97), full", full().type(1, 97), FULL);
    said("## Promise 3: wipe `int wipe(int text)`: A text is empty: how many bytes it had. BAD.");
    due("wipe(0)", x.wipe(0), 2);
    due("count(3), the other text is as it was", x.count(3), 1);
    due("wipe(0), empty", x.wipe(0), 0);
    due("wipe(2)", x.wipe(2), BAD);
    said("## Promise 4: undo `int undo(int text)`: The last byte of a text is undone: how many are left. BAD; NOT: it is empty.");
    due("undo(1)", x.undo(1), 0);
    due("undo(1), empty", x.undo(1), NOT);
    due("undo(2)", x.undo(2), BAD);
    LinenHouse last = house("s0abcx", "");
    due("undo(0), the x", last.undo(0), 5);
    due("fault(0)", last.fault(0), NONE);
    said("## Promise 5: fault `int fault(int text)`: The FAULT of a text; NONE. BAD.");
    due("fault(0)", house("s0abcx", "ab1x").fault(0), 5);
    due("fault(1)", house("s0abcx", "ab1x").fault(1), 3);
    due("fault(2)", x.fault(2), BAD);
    said("""
        ## Promise 6: member `int member(int member, int what)`: Its sort (what = 0: 0 s, 1 b, 2 d), SHELF as told (1), what it WOULD have best, second, last
        (2 to 4) of a MEMBER. BAD.""");
    LinenHouse y = house("s0abc;d4cab", "ab1cb2");
    y.fold(0, 1, 2);
    int[] member = {2, 4, 2, 0, 1, BAD};
    for (int what = 0; what <= 5; what++) due("member(1, " + what + ")", y.member(1, what), member[what]);
    due("member(2, 0)", y.member(2, 0), BAD);
    said("""
        ## Promise 7: motion `int motion(int night, int what)`: The first (what = 0), the other one (1), how (2: 1, 2) of a NIGHT; NONE: there is no
        MOTION. BAD.""");
    int[] motion = {2, 1, 2, BAD};
    for (int what = 0; what <= 3; what++) due("motion(1, " + what + ")", y.motion(1, what), motion[what]);
    due("motion(2, 0)", y.motion(2, 0), NONE);
    due("motion(10, 0)", y.motion(10, 0), BAD);
    said("## Promise 8: weight `int weight(int sort, int v)`: WEIGHT of a sort: what it was. BAD.");
    due("weight(2, 7)", y.weight(2, 7), 1);
    due("weight(2, 7)", y.weight(2, 7), 7);
    due("count(6)", y.count(6), 10);
    due("weight(2, -1)", y.weight(2, -1), BAD);
  }

  private static void promisesOfFolds() {
    said("## Promise 9: fold `int fold(int night, int member, int shelf)`: A FOLD more: how many. BAD; FULL.");
    LinenHouse x = house("s0abc;d4cab", "ab1cb2");
    due("fold(1, 1, 0)", x.fold(1, 1, 0), 1);
    due("fold(1, 7, 5)", x.fold(1, 7, 5), 2);
    due("fold(1, 8, 5)", x.fold(1, 8, 5), BAD);
    due("fold(0, 0, 0), full", full().fold(0, 0, 0), FULL);
    said("## Promise 10: jar `int jar(int night)`: A JAR more: how many. BAD; FULL.");
    due("jar(0)", x.jar(0), 1);
    due("jar(0)", x.jar(0), 2);
    due("jar(-1)", x.jar(-1), BAD);
    due("jar(0), full", full().jar(0), FULL);
    said("## Promise 11: back `int back(int what)`: The last FOLD (what = 0), JAR (1) is undone: how many are left. BAD; NOT: there is none.");
    due("back(0)", x.back(0), 1);
    due("lies(1, 1, 0), the first fold is left", x.lies(1, 1, 0), 0);
    due("back(0)", x.back(0), 0);
    due("lies(1, 1, 0), no fold is left", x.lies(1, 1, 0), 4);
    due("back(0)", x.back(0), NOT);
    due("back(1)", x.back(1), 1);
    due("lies(0, 0, 1), one jar is left", x.lies(0, 0, 1), 2);
    due("back(1)", x.back(1), 0);
    due("lies(0, 0, 1), no jar is left", x.lies(0, 0, 1), 5);
    due("back(1)", x.back(1), NOT);
    due("back(2)", x.back(2), BAD);
    said("""
        ## Promise 12: read `int read(int s)`: FOLDS from a SHEET: its items, three for each, as many as are whole, as long as each may be: how many. BAD;
        NULL.""");
    x.sheet(2, 1, 11);
    int[] items = {0, 0, 3, 4, 1, 2, 9, 7, 5, 1, 1};
    for (int i = 0; i < 11; i++) x.put(2, 1, i, items[i]);
    due("read(2)", x.read(2), 3);
    due("count(4)", x.count(4), 3);
    due("lies(0, 0, 0)", x.lies(0, 0, 0), 3);
    due("lies(3, 1, 0)", x.lies(3, 1, 0), 4);
    due("lies(4, 1, 0)", x.lies(4, 1, 0), 2);
    x.put(2, 1, 4, 8);
    due("read(2), the second has member 8", x.read(2), 1);
    due("read(3)", x.read(3), NULL);
    due("read(4)", x.read(4), BAD);
  }

  private static void promisesOfNights() {
    said("""
        ## Promise 13: lies `int lies(int night, int member, int what)`: Its SHELF (what = 0), how WARM (1), for which it votes (2; NONE). BAD.""");
    LinenHouse x = house("s1abc;d5bac;d5abc;d5abc", "ba1ab2");
    x.jar(0);
    int[] lies = {5, 0, 1, BAD}, top = {1, 1, 1, BAD};
    for (int what = 0; what <= 3; what++) due("lies(0, 1, " + what + ")", x.lies(0, 1, what), lies[what]);
    for (int what = 0; what <= 3; what++) due("lies(0, 0, " + what + ")", x.lies(0, 0, what), top[what]);
    due("lies(2, 1, 2)", x.lies(2, 1, 2), NONE);
    due("lies(0, 4, 0)", x.lies(0, 4, 0), BAD);
    said("""
        ## Promise 14: vote `int vote(int night, int what)`: How many vote for the first (what = 0; MEMBERS, whether by WEIGHT or not), by how much it CARRIES
        (1), what CARRIES (2), the SPEAKER (3); NONE: there is no MOTION, or no MEMBER. BAD.""");
    vote(x, 0, 0, 4, 0, 0);
    vote(x, 1, 4, 6, 0, 0);
    vote(x, 2, NONE, NONE, NONE, NONE);
    vote(house("", "ab1"), 0, NONE, NONE, NONE, NONE);
    vote(x, 10, BAD, BAD, BAD, BAD);
    due("vote(0, 4)", x.vote(0, 4), BAD);
    said("## Promise 15: house `int house(int night)`: THE HOUSE; NONE. BAD.");
    due("house(9)", x.house(9), 0);
    due("house(10)", x.house(10), BAD);
    due("house(0)", house("s0abc", "").house(0), NONE);
    said("## Promise 16: told `int told()`: TOLD.");
    due("told()", x.told(), 0);
    due("told()", house("s0abc;s0bac", "ab1ac1bc1ba2").told(), 2);
    said("## Promise 17: pleased `int pleased()`: PLEASED; NONE.");
    due("pleased()", x.pleased(), 0);
    due("pleased()", house("s0abc;s0bac;s0bac", "ab1").pleased(), 1);
    due("pleased()", new LinenHouse().pleased(), NONE);
  }

  private static void promisesOfPlans() {
    said("""
        ## Promise 18: lift `int lift(int night, int i)`: FOLD: how many (i = NONE), the i-th (0, 1; NONE); NONE: also, where nothing CARRIES. BAD.""");
    LinenHouse x = house("d5abc;d5bac;d5bac;d5abc;d5bac", "ab1");
    lift(x, 0, 2, 1, 2);
    lift(x, 1, NONE, NONE, NONE);
    lift(x, 10, BAD, BAD, BAD);
    due("lift(0, 2)", x.lift(0, 2), BAD);
    due("lift(0, -2)", x.lift(0, -2), BAD);
    said("## Promise 19: agenda `int agenda(int one)`: AGENDA; NONE. BAD.");
    due("agenda(1)", x.agenda(1), 0);
    due("agenda(0)", x.agenda(0), NONE);
    due("agenda(3)", x.agenda(3), BAD);
    said("## Promise 20: power `long power(int member, int what)`: POWER: above, below. BAD. (As the least long.)");
    power(x, 4, 1, 5);
    due("power(4, 2)", x.power(4, 2), LONG_BAD);
    due("power(5, 0)", x.power(5, 0), LONG_BAD);
    said("## Promise 21: ring `int ring()`: RING.");
    due("ring()", x.ring(), 0);
    due("ring()", house("s0abc;s0bca;s0cab;s0abc;s0cab", "").ring(), 1);
    said("## Promise 22: sham `int sham(int night, int member)`: SHAM: 1, 0; NONE: there is no MOTION. BAD.");
    LinenHouse y = house("d5abc;d5bac;d5bac;s0abc", "ab1");
    due("sham(0, 0)", y.sham(0, 0), 1);
    due("sham(0, 3)", y.sham(0, 3), 0);
    due("sham(1, 0)", y.sham(1, 0), NONE);
    due("sham(0, 4)", y.sham(0, 4), BAD);
    due("sham(10, 0)", y.sham(10, 0), BAD);
  }

  private static void promisesOfSeen() {
    said("## Promise 23: seen `int seen(int night, int one)`: SEEN more: how many. BAD; FULL.");
    LinenHouse x = house("s0abc", "ab1ac1");
    due("seen(0, 0)", x.seen(0, 0), 1);
    due("seen(9, 3)", x.seen(9, 3), 2);
    due("seen(9, 4)", x.seen(9, 4), BAD);
    due("seen(0, 0), full", full().seen(0, 0), FULL);
    said("## Promise 24: forget `int forget()`: All SEEN are forgotten: how many.");
    due("forget()", x.forget(), 2);
    due("forget()", x.forget(), 0);
    due("would(0), nothing seen", x.would(0), 63);
    said("## Promise 25: never `int never()`: NEVER, as bits.");
    x.fold(0, 0, 5);
    x.fold(5, 3, 3);
    x.fold(9, 0, 0);
    due("never()", x.never(), 7);
    x.seen(0, 1);
    due("never()", x.never(), 0);
    said("## Promise 26: would `int would(int member)`: WOULD, as bits. BAD.");
    due("would(0), b ahead of a", x.would(0), 4 + 8 + 32);
    due("would(1)", x.would(1), BAD);
    said("## Promise 27: ask `int ask(int member)`: ASK. BAD.");
    due("ask(0)", x.ask(0), 1);
    due("ask(1)", x.ask(1), BAD);
    said("""
        ## Promise 28: ajar `long ajar(int c, int last, int one, int night, int what)`: AJAR: c sixteenths, up to last (0 to 9): above, below. BAD. (As the
        least long.)""");
    ajar(house("s1abc;s1bac;s1bac;d0abc;d0abc", "ab1"), 10, 9, 1, 9, 5, 8);
    due("ajar(1, 10, 0, 0, 0)", x.ajar(1, 10, 0, 0, 0), LONG_BAD);
    due("ajar(1, 0, 0, 0, 2)", x.ajar(1, 0, 0, 0, 2), LONG_BAD);
    said("## Promise 29: evenings `int evenings(int seed, int what)`: EVENINGS: how many (what = 0), THE HOUSE (1; NONE). BAD.");
    // The lot of 1 is 2: bac.
    due("evenings(1, 0)", x.evenings(1, 0), 1);
    due("evenings(1, 1)", x.evenings(1, 1), 0);
    due("evenings(1, 2)", x.evenings(1, 2), BAD);
    due("evenings(1, 1), nothing", new LinenHouse().evenings(1, 1), NONE);
  }

  private static void promisesOfSheets() {
    said("## Promise 30: sheet `int sheet(int s, int form, int n)`: A SHEET is a new row of a FORM with n items: n. BAD: SHEET, FORM, above 60; SIZE.");
    LinenHouse x = house("s0cab", "ab1bc1");
    due("sheet(0, 2, 4)", x.sheet(0, 2, 4), 4);
    due("sheet(0, 2, 61)", x.sheet(0, 2, 61), BAD);
    due("sheet(0, 2, -1)", x.sheet(0, 2, -1), SIZE);
    due("get(0, 2, 3), still there", x.get(0, 2, 3), 0);
    said("## Promise 31: lose `int lose(int s)`: It is LOST: how many items it had. BAD; NULL.");
    due("lose(0)", x.lose(0), 4);
    due("lose(0)", x.lose(0), NULL);
    due("lose(4)", x.lose(4), BAD);
    said("""
        ## Promise 32: put `int put(int s, int form, int i, int v)`: Item i, treated as of a FORM, becomes v (the lowest bits that it has): 1. BAD; NULL;
        CAST; INDEX.""");
    x.sheet(1, 0, 3);
    due("put(1, 0, 2, 511)", x.put(1, 0, 2, 511), 1);
    due("put(1, 0, 1, 384)", x.put(1, 0, 1, 384), 1);
    int[] puts = {x.put(1, 3, 0, 0), x.put(0, 0, 0, 0), x.put(1, 1, 0, 0), x.put(1, 0, 3, 0)}, refused = {BAD, NULL, CAST, INDEX};
    for (int k = 0; k < 4; k++) due("put, refused", puts[k], refused[k]);
    said("## Promise 33: get `int get(int s, int form, int i)`: Item i of it. BAD: the least int; so are NULL, CAST, INDEX (count() 8 tells).");
    int[] items = {0, -128, -1};
    for (int i = 0; i < 3; i++) due("get(1, 0, " + i + ")", x.get(1, 0, i), items[i]);
    int[] gets = {x.get(4, 0, 0), x.count(8), x.get(0, 0, 0), x.count(8), x.get(1, 2, 0), x.count(8), x.get(1, 0, -1), x.count(8)};
    int[] want = {LEAST, 2, LEAST, 1, LEAST, 3, LEAST, 2};
    for (int k = 0; k < 8; k++) due("get, refused, and count(8), " + k, gets[k], want[k]);
    said("""
        ## Promise 34: copy `int copy(int s, int i, int t, int j, int n)`: n items of SHEET s, from i on, come to SHEET t (perhaps s, as they were), from j on:
        1. BAD: the SHEETS; NULL: s, t; STORE; INDEX: below 0, not so many.""");
    x.sheet(2, 0, 2);
    due("copy(1, 1, 2, 0, 2)", x.copy(1, 1, 2, 0, 2), 1);
    due("get(2, 0, 0)", x.get(2, 0, 0), -128);
    due("copy(1, 0, 1, 1, 2), over itself", x.copy(1, 0, 1, 1, 2), 1);
    int[] moved = {0, 0, -128};
    for (int i = 0; i < 3; i++) due("get(1, 0, " + i + ")", x.get(1, 0, i), moved[i]);
    x.sheet(3, 2, 3);
    int[] copies = {x.copy(1, 0, 4, 0, 1), x.copy(1, 0, 0, 0, 1), x.copy(0, 0, 1, 0, 1), x.copy(1, 0, 3, 0, 1), x.copy(1, 0, 2, 0, 3), x.copy(2, 0, 1, 2, 2),
        x.copy(1, 0, 2, 0, -1)};
    int[] why = {BAD, NULL, NULL, STORE, INDEX, INDEX, INDEX};
    for (int k = 0; k < copies.length; k++) due("copy, refused, " + k, copies[k], why[k]);
    said("""
        ## Promise 35: write `int write(int s)`: What CARRIES on NIGHTS 0 on (NONE) comes to a SHEET from item 0 on, as many as there are items, 10 at most:
        how many. BAD; NULL.""");
    due("write(3)", x.write(3), 3);
    int[] carried = {0, 2, NONE};
    for (int i = 0; i < 3; i++) due("get(3, 2, " + i + ")", x.get(3, 2, i), carried[i]);
    x.sheet(3, 1, 60);
    due("write(3), ten at most", x.write(3), 10);
    due("get(3, 1, 9)", x.get(3, 1, 9), NONE);
    due("get(3, 1, 10)", x.get(3, 1, 10), 0);
    due("write(0)", x.write(0), NULL);
    due("write(-1)", x.write(-1), BAD);
  }

  private static void promisesOfCounts() {
    said("""
        ## Promise 36: count `int count(int what)`: 0 MEMBERS, 1 MOTIONS, 2, 3 bytes of texts, 4 FOLDS, 5 JARS, 6 the WEIGHT of all, 7 SEEN, 8 the number of
        the latest FINDING (0 before any). BAD.""");
    counts(ordinary(), 5, 5, 29, 15, 2, 1, 11, 2, 3, BAD);
    due("count(-1)", ordinary().count(-1), BAD);
    said("""
        ## Promise 37: digest `long digest()`: h is 17; h becomes 31 h and each of: count() 0 to 7; of texts fault(); of MEMBERS member() 0 to 4, of NIGHTS 0,
        4, 9 lies(the NIGHT, it, 0 to 2), sham(the NIGHT, it), then power(it), above, below, would(), ask(); of NIGHTS 0 to 9 motion() 0 to 2, vote() 0 to 3,
        house(), lift(it, NONE), lift(it, 0); told(), pleased(), agenda() 0 to 2, ring(), never(), ajar(5, 5, 1, 7), above, below, evenings(7, 0 and 1); as
        longs that wrap.""");
    // Of a new object: count() 0 to 7, two faults, ten nights of ten, told, pleased, agenda, ring, never, 0 by 1, 0 and NONE.
    long h = 17;
    for (int k = 0; k < 8; k++) h *= 31;
    for (int k = 0; k < 2 + 10 * 10; k++) h = 31 * h - 1;
    for (long part : new long[] {0, -1, -1, -1, -1, 0, 0, 0, 1, 0, -1}) h = 31 * h + part;
    due("digest() of a new object", new LinenHouse().digest(), h);
    // One member that would have b, one motion: what each part answers, one by one.
    long[] one = {1, 1, 5, 3, 0, 0, 3, 0, -1, -1, 0, 1, 1, 0, 2, 1, 4, 1, 0, 1, 4, -1, -1, 1, 4, -1, -1, 1, 1, 63, 0};
    long g = 17;
    for (long part : one) g = 31 * g + part;
    long[] night = {0, 1, 1, 0, 1, 1, 0, 1, -1, -1};
    for (long part : night) g = 31 * g + part;
    for (int n = 1; n < 10; n++) for (int k = 0; k < 10; k++) g = 31 * g + (k == 7 ? 1 : -1);
    // The lot of 7 is 0: abc, by which a carries.
    for (long part : new long[] {0, 0, -1, 0, -1, 0, 0, 1, 1, 1, 0}) g = 31 * g + part;
    due("digest() of one member", house("s1bac", "ab1").digest(), g);
  }

  // ---- not promised

  private static final Act[] QUESTIONS = {x -> x.fault(0), x -> x.fault(1), x -> x.member(0, 4), x -> x.motion(2, 1), x -> x.lies(3, 0, 0),
      x -> x.lies(2, 1, 1), x -> x.lies(1, 2, 2), x -> x.vote(0, 0), x -> x.vote(1, 1), x -> x.vote(2, 2), x -> x.vote(3, 3), x -> x.house(9), x -> x.told(),
      x -> x.pleased(), x -> x.lift(1, NONE), x -> x.lift(2, 0), x -> x.lift(4, 1), x -> x.agenda(0), x -> x.agenda(2), x -> x.power(1, 0), x -> x.power(0, 1),
      x -> x.ring(), x -> x.sham(0, 1), x -> x.sham(4, 3), x -> x.never(), x -> x.would(0), x -> x.would(2), x -> x.ask(1), x -> x.ask(3),
      x -> x.ajar(7, 3, 1, 4, 0), x -> x.ajar(7, 9, 0, 3, 1), x -> x.evenings(2026, 0), x -> x.evenings(-5, 1), x -> x.count(6),
      x -> x.count(8), x -> x.digest()};

  /** Some of everything; sheets 0 to 2 of forms 0 to 2, sheet 3 lost; the latest finding is CAST. */
  private static LinenHouse ordinary() {
    LinenHouse x = house("s0abc;b3bca;d4cab;d4cba;d5abc", "ab1ab2bc1ca2cb1");
    x.fold(1, 2, 0);
    x.fold(3, 0, 5);
    x.jar(2);
    x.seen(0, 0);
    x.seen(7, 3);
    x.weight(1, 5);
    for (int s = 0; s < 3; s++) x.sheet(s, s, 3);
    for (int i = 0; i < 3; i++) x.put(1, 1, i, i + 7);
    x.put(0, 1, 0, 0);
    return x;
  }

  /** As much of everything as may be. */
  private static LinenHouse full() {
    LinenHouse x = house(EIGHT, TEN);
    for (int k = 0; k < 8; k++) x.fold(k, 7 - k, k % 6);
    for (int k = 0; k < 6; k++) x.jar(k + 2);
    for (int k = 0; k < 8; k++) x.seen(k, Math.max(0, x.vote(k, 2)));
    for (int s = 0; s < 4; s++) {
      x.sheet(s, s % 3, 60);
      for (int i = 0; i < 3; i++) x.put(s, s % 3, i, s + i + 1);
    }
    return x;
  }

  private static void notPromised() {
    said("""
        ## Not promised How the state is held inside the object is free, as are the speed of each call, the text of toString and the behaviour of equals and
        hashCode.""");
    said("Use of one object from several threads at once is not promised to be safe.");
    said("""
        Nothing is promised beyond the answers and state changes described above, and nothing about an object after its 512th call.""");
    // A question changes nothing: whatever is asked ahead of it, another one is answered alike.
    State[] states = {LinenHouse::new, DocumentTest::ordinary, DocumentTest::full, () -> house("s0abc;s0abc,", "ab1")};
    for (State state : states) {
      for (int ahead = 0; ahead < QUESTIONS.length; ahead++) {
        for (int asked = 0; asked < QUESTIONS.length; asked++) {
          LinenHouse x = state.make();
          QUESTIONS[ahead].on(x);
          due("question " + asked + " behind question " + ahead, QUESTIONS[asked].on(x), QUESTIONS[asked].on(state.make()));
        }
      }
    }
    LinenHouse asked = ordinary();
    for (int k = 0; k < 3; k++) due("get(1, 1, 2), again", asked.get(1, 1, 2), 9);
    due("count(8), as it was", asked.count(8), 3);
    // Two objects that are used in turn have nothing of each other.
    LinenHouse x = new LinenHouse(), y = new LinenHouse();
    for (int i = 0; i < 47; i++) {
      x.type(0, EIGHT.charAt(i));
      if (i < 29) y.type(0, "b5cba;s1bac;d4acb;d4cab;s0abc".charAt(i));
      if (i < 30) x.type(1, TEN.charAt(i));
      if (i < 9) y.type(1, "cb2ab1ac2".charAt(i));
    }
    for (int k = 0; k < QUESTIONS.length; k++) {
      LinenHouse xAlone = house(EIGHT, TEN), yAlone = house("b5cba;s1bac;d4acb;d4cab;s0abc", "cb2ab1ac2");
      due("question " + k + " to the one", QUESTIONS[k].on(x), QUESTIONS[k].on(xAlone));
      due("question " + k + " to the other", QUESTIONS[k].on(y), QUESTIONS[k].on(yAlone));
    }
  }

  /** Remarks words of the document that stand in no said(), and words in one that the document has not. */
  private static void compareWithDocument() throws IOException {
    Path path = Path.of("../shared/DOC.md");
    if (!Files.isReadable(path)) {
      System.out.println("remark: there is no ../shared/DOC.md to compare with");
      return;
    }
    String document = plain(Files.readString(path));
    int at = 0;
    for (String sentence : SAID) {
      int found = document.indexOf(sentence, at);
      if (found < 0) {
        System.out.println("remark: the document does not say (here): " + sentence);
        continue;
      }
      if (!document.substring(at, found).isBlank()) System.out.println("remark: without a test: " + document.substring(at, found).trim());
      at = found + sentence.length();
    }
    if (!document.substring(at).isBlank()) System.out.println("remark: without a test: " + document.substring(at).trim());
  }

  public static void main(String[] args) throws Exception {
    whatItIs();
    publicFace();
    texts();
    nightsFoldsJars();
    warmAndLeans();
    carriesAndHouse();
    fractionsLotsSheets();
    partTwo();
    partThree();
    partFour();
    refusals();
    promisesOfTexts();
    promisesOfFolds();
    promisesOfNights();
    promisesOfPlans();
    promisesOfSeen();
    promisesOfSheets();
    promisesOfCounts();
    notPromised();
    compareWithDocument();
    System.out.println(SAID.size() + " sentences, " + checks + " checks, " + wrong + " answers not as due");
    if (wrong != 0) System.exit(1);
  }
}
