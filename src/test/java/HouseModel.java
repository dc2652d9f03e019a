import java.math.BigInteger;
import java.util.ArrayList;
import java.util.Arrays;
import java.util.HashMap;
import java.util.List;
import java.util.Map;

/** The document once more, written for plainness alone: every count is made by trying all cases. */
final class HouseModel {
  private static final int NONE = -1, BAD = -2, NOT = -3, FULL = -4;
  private static final long LONG_BAD = Long.MIN_VALUE + 2;
  private static final List<String> ORDERS = List.of("abc", "acb", "bac", "bca", "cab", "cba");
  private static final List<String> MOTIONS = List.of("ab1 ab2 ac1 ac2 ba1 ba2 bc1 bc2 ca1 ca2 cb1 cb2".split(" "));
  private static final Map<String, long[]> POWERS = new HashMap<>();

  private final String[] texts = {"", ""};
  private final int[] weights = {3, 2, 1};
  private final List<int[]> folds = new ArrayList<>();
  private final List<Integer> jars = new ArrayList<>();
  private final List<int[]> seen = new ArrayList<>();
  private final Object[] sheets = new Object[4];
  private int finding = 0;

  private static final class Member {
    int sort, shelf;
    String order;
  }

  /** A cupboard as it might be. */
  private static final class Case {
    List<Member> members = new ArrayList<>();
    List<String> motions = new ArrayList<>();
    List<int[]> folds = new ArrayList<>();
    List<Integer> jars = new ArrayList<>();
  }

  private static boolean in(int v, int from, int to) {
    return v >= from && v <= to;
  }

  private static boolean isPiece(String p) {
    return p.length() == 5 && "sbd".indexOf(p.charAt(0)) >= 0 && in(p.charAt(1), '0', '5') && ORDERS.contains(p.substring(2));
  }

  private static boolean mayGrowToPiece(String p) {
    for (char sort : "sbd".toCharArray()) {
      for (char shelf = '0'; shelf <= '5'; shelf++) {
        for (String order : ORDERS) {
          if ((sort + "" + shelf + order).startsWith(p)) return true;
        }
      }
    }
    return false;
  }

  private static boolean membersMayGoOn(String t) {
    String[] pieces = t.split(";", -1);
    if (pieces.length > 8 && !pieces[8].isEmpty()) return false;
    for (int i = 0; i + 1 < pieces.length; i++) if (!isPiece(pieces[i])) return false;
    return mayGrowToPiece(pieces[pieces.length - 1]);
  }

  private static boolean motionsMayGoOn(String t) {
    for (int i = 0; i < t.length(); i += 3) {
      String p = t.substring(i, Math.min(i + 3, t.length()));
      if (MOTIONS.stream().noneMatch(motion -> motion.startsWith(p))) return false;
    }
    return true;
  }

  private int faultOf(int text) {
    String t = texts[text];
    for (int i = 0; i < t.length(); i++) {
      String upTo = t.substring(0, i + 1);
      if (text == 0 ? !membersMayGoOn(upTo) : !motionsMayGoOn(upTo)) return i;
    }
    if (t.isEmpty()) return NONE;
    boolean ended = text == 0 ? isPiece(t.substring(t.lastIndexOf(';') + 1)) : t.length() % 3 == 0;
    return ended ? NONE : t.length();
  }

  private Case asTold() {
    Case c = new Case();
    if (faultOf(0) == NONE && !texts[0].isEmpty()) {
      for (String p : texts[0].split(";")) {
        Member m = new Member();
        m.sort = "sbd".indexOf(p.charAt(0));
        m.shelf = p.charAt(1) - '0';
        m.order = p.substring(2);
        c.members.add(m);
      }
    }
    if (faultOf(1) == NONE) {
      for (int i = 0; i < texts[1].length(); i += 3) c.motions.add(texts[1].substring(i, i + 3));
    }
    c.folds.addAll(folds);
    c.jars.addAll(jars);
    return c;
  }

  private static int shelf(Case c, int night, int member) {
    int shelf = c.members.get(member).shelf;
    for (int n = 0; n <= night; n++) {
      for (int[] f : c.folds) if (f[0] == n && f[1] == member) shelf = f[2];
    }
    return shelf;
  }

  private static int warm(Case c, int night, int member) {
    return Math.max(0, 5 - shelf(c, night, member) - (c.jars.contains(night) ? 3 : 0));
  }

  private static char rather(Member m, char x, char y) {
    return m.order.indexOf(x) < m.order.indexOf(y) ? x : y;
  }

  private static char leans(Case c, int night, int member, char x, char y) {
    Member m = c.members.get(member);
    if (warm(c, night, member) >= 2) return rather(m, x, y);
    int forX = 0, forY = 0;
    for (int k = 0; k < c.members.size(); k++) {
      if (shelf(c, night, k) == shelf(c, night, member)) {
        if (rather(c.members.get(k), x, y) == x) forX++; else forY++;
      }
    }
    if (forX == forY) return rather(m, x, y);
    return forX > forY ? x : y;
  }

  private static int speaker(Case c, int night) {
    for (int shelf = 0; shelf <= 5; shelf++) {
      for (int m = 0; m < c.members.size(); m++) if (shelf(c, night, m) == shelf) return m;
    }
    return NONE;
  }

  private int[] sums(Case c, char[] votes, char x, boolean byWeight) {
    int[] sums = new int[2];
    for (int m = 0; m < votes.length; m++) sums[votes[m] == x ? 0 : 1] += byWeight ? weights[c.members.get(m).sort] : 1;
    return sums;
  }

  private static char[] votes(Case c, int night, char x, char y) {
    char[] votes = new char[c.members.size()];
    for (int m = 0; m < votes.length; m++) votes[m] = leans(c, night, m, x, y);
    return votes;
  }

  private char carriesBy(Case c, int night, char[] votes, char x, char y, boolean byWeight) {
    int[] sums = sums(c, votes, x, byWeight);
    if (sums[0] == sums[1]) return votes[speaker(c, night)];
    return sums[0] > sums[1] ? x : y;
  }

  private static boolean isPut(Case c, int night) {
    return night < c.motions.size() && !c.members.isEmpty();
  }

  private int carries(Case c, int night) {
    if (!isPut(c, night)) return NONE;
    String p = c.motions.get(night);
    char x = p.charAt(0), y = p.charAt(1);
    return carriesBy(c, night, votes(c, night, x, y), x, y, p.charAt(2) == '2') - 'a';
  }

  private int houseOf(Case c, int night) {
    int house = NONE;
    for (int n = 0; n <= night; n++) if (carries(c, n) != NONE) house = carries(c, n);
    return house;
  }

  private int found(int number) {
    finding = number;
    return -10 - number;
  }

  private boolean isMember(int m) {
    return in(m, 0, asTold().members.size() - 1);
  }

  int type(int text, int b) {
    if (!in(text, 0, 1) || !in(b, 0, 255)) return BAD;
    if (texts[text].length() == (text == 0 ? 47 : 30)) return FULL;
    texts[text] += (char) b;
    return texts[text].length();
  }

  int wipe(int text) {
    if (!in(text, 0, 1)) return BAD;
    int had = texts[text].length();
    texts[text] = "";
    return had;
  }

  int undo(int text) {
    if (!in(text, 0, 1)) return BAD;
    if (texts[text].isEmpty()) return NOT;
    texts[text] = texts[text].substring(0, texts[text].length() - 1);
    return texts[text].length();
  }

  int fault(int text) {
    return in(text, 0, 1) ? faultOf(text) : BAD;
  }

  int member(int member, int what) {
    if (!isMember(member) || !in(what, 0, 4)) return BAD;
    Member m = asTold().members.get(member);
    return what == 0 ? m.sort : what == 1 ? m.shelf : m.order.charAt(what - 2) - 'a';
  }

  int motion(int night, int what) {
    if (!in(night, 0, 9) || !in(what, 0, 2)) return BAD;
    Case c = asTold();
    if (night >= c.motions.size()) return NONE;
    return c.motions.get(night).charAt(what) - (what == 2 ? '0' : 'a');
  }

  int weight(int sort, int v) {
    if (!in(sort, 0, 2) || !in(v, 0, 9)) return BAD;
    int was = weights[sort];
    weights[sort] = v;
    return was;
  }

  int fold(int night, int member, int shelf) {
    if (!in(night, 0, 9) || !in(member, 0, 7) || !in(shelf, 0, 5)) return BAD;
    if (folds.size() == 8) return FULL;
    folds.add(new int[] {night, member, shelf});
    return folds.size();
  }

  int jar(int night) {
    if (!in(night, 0, 9)) return BAD;
    if (jars.size() == 6) return FULL;
    jars.add(night);
    return jars.size();
  }

  int back(int what) {
    if (!in(what, 0, 1)) return BAD;
    List<?> list = what == 0 ? folds : jars;
    if (list.isEmpty()) return NOT;
    list.remove(list.size() - 1);
    return list.size();
  }

  int read(int s) {
    if (!in(s, 0, 3)) return BAD;
    if (sheets[s] == null) return found(1);
    int many = 0;
    for (int i = 0; i + 3 <= size(s); i += 3) {
      if (fold(item(s, i), item(s, i + 1), item(s, i + 2)) < 0) break;
      many++;
    }
    return many;
  }

  int lies(int night, int member, int what) {
    if (!in(night, 0, 9) || !isMember(member) || !in(what, 0, 2)) return BAD;
    Case c = asTold();
    if (what == 0) return shelf(c, night, member);
    if (what == 1) return warm(c, night, member);
    if (!isPut(c, night)) return NONE;
    String p = c.motions.get(night);
    return leans(c, night, member, p.charAt(0), p.charAt(1)) == p.charAt(0) ? 0 : 1;
  }

  int vote(int night, int what) {
    if (!in(night, 0, 9) || !in(what, 0, 3)) return BAD;
    Case c = asTold();
    if (!isPut(c, night)) return NONE;
    String p = c.motions.get(night);
    char[] votes = votes(c, night, p.charAt(0), p.charAt(1));
    if (what == 0) return sums(c, votes, p.charAt(0), false)[0];
    int[] sums = sums(c, votes, p.charAt(0), p.charAt(2) == '2');
    if (what == 1) return Math.abs(sums[0] - sums[1]);
    return what == 2 ? carries(c, night) : speaker(c, night);
  }

  int house(int night) {
    return in(night, 0, 9) ? houseOf(asTold(), night) : BAD;
  }

  int told() {
    int many = 0;
    for (int n = 0; n <= 9; n++) if (vote(n, 1) == 0) many++;
    return many;
  }

  int pleased() {
    Case c = asTold();
    int best = NONE, most = -1;
    for (int m = 0; m < c.members.size(); m++) {
      int times = 0;
      for (int n = 0; n < c.motions.size(); n++) if (motion(n, lies(n, m, 2)) == carries(c, n)) times++;
      if (times > most) {
        most = times;
        best = m;
      }
    }
    return best;
  }

  private List<Integer> liftOf(int night) {
    Case c = asTold();
    int as = carries(c, night);
    if (as == NONE) return null;
    List<List<Integer>> rows = new ArrayList<>();
    for (int a = 0; a < c.members.size(); a++) rows.add(List.of(a));
    for (int a = 0; a < c.members.size(); a++) for (int b = a + 1; b < c.members.size(); b++) rows.add(List.of(a, b));
    for (List<Integer> row : rows) {
      Case lifted = asTold();
      for (int m : row) lifted.folds.add(new int[] {night, m, 0});
      if (carries(lifted, night) != as) return row;
    }
    return null;
  }

  int lift(int night, int i) {
    if (!in(night, 0, 9) || !in(i, -1, 1)) return BAD;
    List<Integer> row = liftOf(night);
    if (row == null) return NONE;
    if (i == NONE) return row.size();
    return i < row.size() ? row.get(i) : NONE;
  }

  int agenda(int one) {
    if (!in(one, 0, 2)) return BAD;
    Case c = asTold();
    c.folds.clear();
    c.jars.clear();
    String[] begins = {"ab1", "ac1", "bc1"}, thirds = {"c", "b", "a"};
    for (int pair = 0; pair < 3 && !c.members.isEmpty(); pair++) {
      c.motions = new ArrayList<>(List.of(begins[pair]));
      c.motions.add((char) ('a' + carries(c, 0)) + thirds[pair] + "1");
      if (carries(c, 1) == one) return pair;
    }
    return NONE;
  }

  private static void countTurning(int[] weights, int all, boolean[] in, int sum, int depth, long[] turning) {
    if (depth == weights.length) {
      turning[weights.length]++;
      return;
    }
    for (int m = 0; m < weights.length; m++) {
      if (in[m]) continue;
      in[m] = true;
      if (2 * sum <= all && 2 * (sum + weights[m]) > all) {
        turning[m] += factorial(weights.length - depth - 1);
      }
      countTurning(weights, all, in, sum + weights[m], depth + 1, turning);
      in[m] = false;
    }
  }

  private static long factorial(int n) {
    return n <= 1 ? 1 : n * factorial(n - 1);
  }

  private static long part(BigInteger above, BigInteger below, int what) {
    BigInteger g = above.gcd(below);
    return (what == 0 ? above : below).divide(g).longValueExact();
  }

  long power(int member, int what) {
    if (!isMember(member) || !in(what, 0, 1)) return LONG_BAD;
    Case c = asTold();
    int[] w = new int[c.members.size()];
    for (int m = 0; m < w.length; m++) w[m] = weights[c.members.get(m).sort];
    long[] turning = POWERS.computeIfAbsent(Arrays.toString(w), key -> {
      long[] t = new long[w.length + 1];
      countTurning(w, Arrays.stream(w).sum(), new boolean[w.length], 0, 0, t);
      return t;
    });
    return part(BigInteger.valueOf(turning[member]), BigInteger.valueOf(turning[w.length]), what);
  }

  private boolean beats(char x, char y) {
    int forX = 0, forY = 0;
    for (Member m : asTold().members) {
      if (rather(m, x, y) == x) forX++; else forY++;
    }
    return forX > forY;
  }

  int ring() {
    if (beats('a', 'b') && beats('b', 'c') && beats('c', 'a')) return 1;
    return beats('b', 'a') && beats('c', 'b') && beats('a', 'c') ? 2 : 0;
  }

  int sham(int night, int member) {
    if (!in(night, 0, 9) || !isMember(member)) return BAD;
    Case c = asTold();
    if (!isPut(c, night)) return NONE;
    String p = c.motions.get(night);
    char x = p.charAt(0), y = p.charAt(1);
    boolean byWeight = p.charAt(2) == '2';
    char wish = rather(c.members.get(member), x, y);
    char[] votes = votes(c, night, x, y);
    boolean has = carriesBy(c, night, votes, x, y, byWeight) == wish;
    votes[member] = votes[member] == x ? y : x;
    boolean hasThen = carriesBy(c, night, votes, x, y, byWeight) == wish;
    return !has && hasThen ? 1 : 0;
  }

  int seen(int night, int one) {
    if (!in(night, 0, 9) || !in(one, 0, 3)) return BAD;
    if (seen.size() == 8) return FULL;
    seen.add(new int[] {night, one});
    return seen.size();
  }

  int forget() {
    int had = seen.size();
    seen.clear();
    return had;
  }

  private boolean allSeenSo(Case c) {
    for (int[] s : seen) if (carries(c, s[0]) != (s[1] == 3 ? NONE : s[1])) return false;
    return true;
  }

  int never() {
    int bits = 0;
    for (int f = 0; f < folds.size(); f++) {
      Case c = asTold();
      c.folds.remove(f);
      if (allSeenSo(c)) bits += 1 << f;
    }
    return bits;
  }

  int would(int member) {
    if (!isMember(member)) return BAD;
    int bits = 0;
    for (int o = 0; o < 6; o++) {
      Case c = asTold();
      c.members.get(member).order = ORDERS.get(o);
      if (allSeenSo(c)) bits += 1 << o;
    }
    return bits;
  }

  int ask(int member) {
    if (!isMember(member)) return BAD;
    int bits = would(member), best = NONE, least = 99;
    for (int n = 0; n <= 9; n++) {
      Map<Integer, Integer> like = new HashMap<>();
      int greatest = 0;
      for (int o = 0; o < 6; o++) {
        if ((bits & 1 << o) == 0) continue;
        Case c = asTold();
        c.members.get(member).order = ORDERS.get(o);
        greatest = Math.max(greatest, like.merge(carries(c, n), 1, Integer::sum));
      }
      if (greatest < least) {
        least = greatest;
        best = n;
      }
    }
    return best;
  }

  long ajar(int c, int last, int one, int night, int what) {
    if (!in(c, 0, 16) || !in(last, 0, 9) || !in(one, 0, 2) || !in(night, 0, 9) || !in(what, 0, 1)) return LONG_BAD;
    Case with = asTold();
    with.jars = new ArrayList<>();
    for (int n = 0; n <= 9; n++) with.jars.add(n);
    Case without = asTold();
    without.jars = new ArrayList<>();
    int[][] carried = new int[2][10];
    for (int n = 0; n <= 9; n++) {
      carried[0][n] = carries(without, n);
      carried[1][n] = carries(with, n);
    }
    BigInteger above = BigInteger.ZERO, below = BigInteger.valueOf(16).pow(last + 1);
    for (int mask = 0; mask < 1 << last + 1; mask++) {
      int house = NONE;
      for (int n = 0; n <= night; n++) {
        int carries = carried[mask >> n & 1][n];
        if (carries != NONE) house = carries;
      }
      if (house == one) {
        int jarred = Integer.bitCount(mask);
        above = above.add(BigInteger.valueOf(c).pow(jarred).multiply(BigInteger.valueOf(16 - c).pow(last + 1 - jarred)));
      }
    }
    return part(above, below, what);
  }

  int evenings(int seed, int what) {
    if (!in(what, 0, 1)) return BAD;
    Case c = asTold(), told = asTold();
    int lot = seed;
    for (Member m : c.members) {
      lot = (int) (1103515245L * lot + 12345L);
      m.order = ORDERS.get((int) (((lot & 0xffffffffL) >> 16) % 6));
    }
    if (what == 1) return houseOf(c, 9);
    int many = 0;
    for (int n = 0; n <= 9; n++) if (carries(c, n) != carries(told, n)) many++;
    return many;
  }

  private int size(int s) {
    return java.lang.reflect.Array.getLength(sheets[s]);
  }

  private int formOf(int s) {
    return sheets[s] instanceof byte[] ? 0 : sheets[s] instanceof short[] ? 1 : 2;
  }

  private int item(int s, int i) {
    return java.lang.reflect.Array.getInt(sheets[s], i);
  }

  int sheet(int s, int form, int n) {
    if (!in(s, 0, 3) || !in(form, 0, 2) || n > 60) return BAD;
    if (n < 0) return found(5);
    sheets[s] = form == 0 ? new byte[n] : form == 1 ? new short[n] : new int[n];
    return n;
  }

  int lose(int s) {
    if (!in(s, 0, 3)) return BAD;
    if (sheets[s] == null) return found(1);
    int had = size(s);
    sheets[s] = null;
    return had;
  }

  private void set(int s, int i, int v) {
    if (sheets[s] instanceof byte[] row) row[i] = (byte) v;
    if (sheets[s] instanceof short[] row) row[i] = (short) v;
    if (sheets[s] instanceof int[] row) row[i] = v;
  }

  private int refusal(int s, int form, int i) {
    if (!in(s, 0, 3) || !in(form, 0, 2)) return BAD;
    if (sheets[s] == null) return found(1);
    if (formOf(s) != form) return found(3);
    return in(i, 0, size(s) - 1) ? 0 : found(2);
  }

  int put(int s, int form, int i, int v) {
    int refusal = refusal(s, form, i);
    if (refusal != 0) return refusal;
    set(s, i, v);
    return 1;
  }

  int get(int s, int form, int i) {
    return refusal(s, form, i) != 0 ? Integer.MIN_VALUE : item(s, i);
  }

  int copy(int s, int i, int t, int j, int n) {
    if (!in(s, 0, 3) || !in(t, 0, 3)) return BAD;
    if (sheets[s] == null || sheets[t] == null) return found(1);
    try {
      System.arraycopy(sheets[s], i, sheets[t], j, n);
      return 1;
    } catch (ArrayStoreException e) {
      return found(4);
    } catch (IndexOutOfBoundsException e) {
      return found(2);
    }
  }

  int write(int s) {
    if (!in(s, 0, 3)) return BAD;
    if (sheets[s] == null) return found(1);
    int many = Math.min(10, size(s));
    for (int n = 0; n < many; n++) set(s, n, carries(asTold(), n));
    return many;
  }

  int count(int what) {
    Case c = asTold();
    int weight = 0;
    for (Member m : c.members) weight += weights[m.sort];
    int[] counts = {c.members.size(), c.motions.size(), texts[0].length(), texts[1].length(), folds.size(), jars.size(), weight, seen.size(), finding};
    return in(what, 0, 8) ? counts[what] : BAD;
  }

  long digest() {
    List<Long> all = new ArrayList<>();
    for (int w = 0; w <= 7; w++) all.add((long) count(w));
    all.add((long) fault(0));
    all.add((long) fault(1));
    for (int m = 0; m < count(0); m++) {
      for (int w = 0; w <= 4; w++) all.add((long) member(m, w));
      for (int n : new int[] {0, 4, 9}) {
        for (int w = 0; w <= 2; w++) all.add((long) lies(n, m, w));
        all.add((long) sham(n, m));
      }
      all.addAll(List.of(power(m, 0), power(m, 1), (long) would(m), (long) ask(m)));
    }
    for (int n = 0; n <= 9; n++) {
      for (int w = 0; w <= 2; w++) all.add((long) motion(n, w));
      for (int w = 0; w <= 3; w++) all.add((long) vote(n, w));
      all.addAll(List.of((long) house(n), (long) lift(n, -1), (long) lift(n, 0)));
    }
    all.addAll(List.of((long) told(), (long) pleased(), (long) agenda(0), (long) agenda(1), (long) agenda(2)));
    all.addAll(List.of((long) ring(), (long) never(), ajar(5, 5, 1, 7, 0), ajar(5, 5, 1, 7, 1)));
    all.addAll(List.of((long) evenings(7, 0), (long) evenings(7, 1)));
    long h = 17;
    for (long v : all) h = 31 * h + v;
    return h;
  }
}
