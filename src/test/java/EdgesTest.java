import java.lang.reflect.Method;
import java.util.Arrays;
import java.util.LinkedHashMap;
import java.util.Map;
import java.util.Set;
import java.util.TreeSet;

/**
 * Every call with every row of edge numbers (the farthest ints, and both sides of each end of a range) in several
 * states: each answer is held against HouseModel's, so of several refusals the first comes, and no call fails.
 */
public final class EdgesTest {
  private static final int MOST_CALLS = 512, LEAST = Integer.MIN_VALUE, GREATEST = Integer.MAX_VALUE;
  private static final Set<String> CHANGING =
      Set.of("type", "wipe", "undo", "weight", "fold", "jar", "back", "read", "seen", "forget", "sheet", "lose", "put", "copy", "write");
  private static final Map<String, int[]> RANGES = new LinkedHashMap<>();
  private static int wrong = 0, calls = 0;

  static {
    told("type", 0, 1, 0, 255);
    told("wipe", 0, 1);
    told("undo", 0, 1);
    told("fault", 0, 1);
    told("member", 0, 7, 0, 4);
    told("motion", 0, 9, 0, 2);
    told("weight", 0, 2, 0, 9);
    told("fold", 0, 9, 0, 7, 0, 5);
    told("jar", 0, 9);
    told("back", 0, 1);
    told("read", 0, 3);
    told("lies", 0, 9, 0, 7, 0, 2);
    told("vote", 0, 9, 0, 3);
    told("house", 0, 9);
    told("told");
    told("pleased");
    told("lift", 0, 9, -1, 1);
    told("agenda", 0, 2);
    told("power", 0, 7, 0, 1);
    told("ring");
    told("sham", 0, 9, 0, 7);
    told("seen", 0, 9, 0, 3);
    told("forget");
    told("never");
    told("would", 0, 7);
    told("ask", 0, 7);
    told("ajar", 0, 16, 0, 9, 0, 2, 0, 9, 0, 1);
    told("evenings", LEAST + 1, GREATEST - 1, 0, 1);
    told("sheet", 0, 3, 0, 2, 0, 60);
    told("lose", 0, 3);
    told("put", 0, 3, 0, 2, 0, 59, -128, 127);
    told("get", 0, 3, 0, 2, 0, 59);
    told("copy", 0, 3, 0, 60, 0, 3, 0, 60, 0, 60);
    told("write", 0, 3);
    told("count", 0, 8);
    told("digest");
  }

  private final String members, motions;
  private final int folds, jars, seen, items;
  private final Map<String, Method> mine = new LinkedHashMap<>(), models = new LinkedHashMap<>();
  private LinenHouse house;
  private HouseModel model;
  private int used;

  private EdgesTest(String members, String motions, int folds, int jars, int seen, int items) {
    this.members = members;
    this.motions = motions;
    this.folds = folds;
    this.jars = jars;
    this.seen = seen;
    this.items = items;
    for (Method m : LinenHouse.class.getDeclaredMethods()) if (RANGES.containsKey(m.getName())) mine.put(m.getName(), m);
    for (Method m : HouseModel.class.getDeclaredMethods()) {
      boolean like = mine.containsKey(m.getName()) && Arrays.equals(m.getParameterTypes(), mine.get(m.getName()).getParameterTypes());
      if (like) models.put(m.getName(), m);
    }
  }

  private static void told(String call, int... ends) {
    RANGES.put(call, ends);
  }

  private static int[] edges(int lowest, int highest) {
    TreeSet<Integer> all = new TreeSet<>(Arrays.asList(LEAST, GREATEST, 0));
    for (int beside = -1; beside <= 1; beside++) {
      all.add(lowest + beside);
      all.add(highest + beside);
    }
    return all.stream().mapToInt(Integer::intValue).toArray();
  }

  private void renew() throws Exception {
    house = new LinenHouse();
    model = new HouseModel();
    used = 0;
    for (int i = 0; i < members.length(); i++) held("type", 0, members.charAt(i));
    for (int i = 0; i < motions.length(); i++) held("type", 1, motions.charAt(i));
    for (int k = 0; k < folds; k++) held("fold", k % 10, (k * 3) % 8, k % 6);
    for (int k = 0; k < jars; k++) held("jar", (k * 2) % 10);
    for (int k = 0; k < seen; k++) held("seen", k, k % 4);
    for (int s = 0; s < 3 && items > 0; s++) {
      held("sheet", s, s % 2 == 0 ? 0 : 2, s == 2 ? 60 : items);
      held("put", s, s % 2 == 0 ? 0 : 2, items - 1, 7);
    }
  }

  /** Whether both answered alike, and not by a refusal. */
  private boolean held(String call, int... args) throws Exception {
    Object[] boxed = Arrays.stream(args).boxed().toArray();
    Object got;
    try {
      got = mine.get(call).invoke(house, boxed);
    } catch (java.lang.reflect.InvocationTargetException failed) {
      got = failed.getCause().toString();
    }
    Object due = models.get(call).invoke(model, boxed);
    calls++;
    used++;
    if (!due.equals(got)) {
      wrong++;
      if (wrong <= 40) System.out.println("members " + members + ": " + call + Arrays.toString(args) + " answered " + got + ", due is " + due);
    }
    return ((Number) due).longValue() >= 0;
  }

  private void everyRow(String call, int[] args, int place) throws Exception {
    int[] ends = RANGES.get(call);
    if (place < args.length) {
      for (int v : edges(ends[2 * place], ends[2 * place + 1])) {
        args[place] = v;
        everyRow(call, args, place + 1);
      }
      return;
    }
    if (used > MOST_CALLS - 6) renew();
    if (held(call, args)) {
      if (CHANGING.contains(call)) {
        for (int k : new int[] {4, 5, 7}) held("count", k);
        renew();
      }
    } else {
      held("count", 8);
    }
  }

  private void go() throws Exception {
    for (String call : RANGES.keySet()) {
      renew();
      everyRow(call, new int[RANGES.get(call).length / 2], 0);
      held("digest");
    }
  }

  public static void main(String[] args) throws Exception {
    String eight = "s0abc;b1bca;d2cab;s3cba;b4bac;d5acb;s4abc;d5cab", ten = "ab1bc2ca1ba2ac1cb2ab2bc1ac2ca1";
    new EdgesTest("", "", 0, 0, 0, 0).go();
    new EdgesTest("d5cab", "", 1, 1, 1, 1).go();
    new EdgesTest("", "ab1", 0, 1, 2, 60).go();
    new EdgesTest("s0abc;b3bca;d4cab;d4cba;d5abc", "ab1ab2bc1ca2cb1", 3, 2, 2, 5).go();
    new EdgesTest(eight, ten, 8, 6, 8, 60).go();
    new EdgesTest(eight.replace("d5cab", "d5caa"), ten.replace("ca1", "ca3"), 7, 5, 7, 59).go();
    new EdgesTest("s0abc;b3bcb", "ab1a", 7, 5, 7, 59).go();
    System.out.println(calls + " calls, " + wrong + " answers not as due");
    if (wrong != 0) System.exit(1);
  }
}
