import java.util.Random;

/** Long runs of calls, right and wrong ones, whose every answer is held against HouseModel's. */
public final class RandomRunsTest {
  private static final int RUNS = 400, CALLS = 512;
  private static int wrong = 0, calls = 0;

  private final Random random;
  private final LinenHouse house = new LinenHouse();
  private final HouseModel model = new HouseModel();
  private final int run;

  private RandomRunsTest(int run) {
    this.run = run;
    random = new Random(run);
  }

  /** From 0 to most, now and then just beside that, seldom far off. */
  private int upTo(int most) {
    int dice = random.nextInt(60);
    if (dice == 0) return -1;
    if (dice == 1) return most + 1;
    if (dice == 2) return random.nextBoolean() ? Integer.MIN_VALUE : Integer.MAX_VALUE;
    return random.nextInt(most + 1);
  }

  private void due(long got, long want, String call, int... args) {
    calls++;
    if (got == want) return;
    wrong++;
    StringBuilder told = new StringBuilder(call).append('(');
    for (int i = 0; i < args.length; i++) told.append(i == 0 ? "" : ", ").append(args[i]);
    if (wrong <= 20) System.out.println("run " + run + ": " + told + ") answered " + got + ", due is " + want);
  }

  private void typeAll(int text, String all) {
    due(house.wipe(text), model.wipe(text), "wipe", text);
    for (char b : all.toCharArray()) due(house.type(text, b), model.type(text, b), "type", text, b);
  }

  private String order() {
    return new String[] {"abc", "acb", "bac", "bca", "cab", "cba"}[random.nextInt(6)];
  }

  private void typeMembers() {
    StringBuilder all = new StringBuilder();
    int many = random.nextInt(9);
    int low = random.nextBoolean() ? 3 : 0;
    for (int m = 0; m < many; m++) {
      all.append(m == 0 ? "" : ";").append("sbd".charAt(random.nextInt(3))).append(low + random.nextInt(6 - low)).append(order());
    }
    typeAll(0, all.toString());
  }

  private void typeMotions() {
    StringBuilder all = new StringBuilder();
    int many = random.nextInt(11);
    for (int m = 0; m < many; m++) all.append(order(), 0, 2).append(1 + random.nextInt(2));
    typeAll(1, all.toString());
  }

  private void textCall() {
    int text = upTo(1);
    switch (random.nextInt(6)) {
      case 0: due(house.wipe(text), model.wipe(text), "wipe", text); break;
      case 1:
      case 2: due(house.undo(text), model.undo(text), "undo", text); break;
      default:
        String likely = text == 0 ? "sbd012345abc;abc;" : "abcabc12";
        int b = random.nextInt(8) == 0 ? upTo(255) : likely.charAt(random.nextInt(likely.length()));
        due(house.type(text, b), model.type(text, b), "type", text, b);
    }
    for (int t = -1; t <= 2; t++) due(house.fault(t), model.fault(t), "fault", t);
  }

  private void change() {
    int a = upTo(9), b = upTo(7), c = upTo(5), sort = upTo(2), one = upTo(3), two = upTo(1);
    switch (random.nextInt(9)) {
      case 0:
      case 1:
      case 2: due(house.fold(a, b, c), model.fold(a, b, c), "fold", a, b, c); break;
      case 3: due(house.jar(a), model.jar(a), "jar", a); break;
      case 4: due(house.back(two), model.back(two), "back", two); break;
      case 5: due(house.weight(sort, a), model.weight(sort, a), "weight", sort, a); break;
      case 6: {
        int seen = random.nextBoolean() && a >= 0 && a <= 9 ? Math.max(0, model.vote(a, 2)) : one;
        due(house.seen(a, seen), model.seen(a, seen), "seen", a, seen);
        break;
      }
      case 7: due(house.forget(), model.forget(), "forget"); break;
      default: due(house.seen(a, one), model.seen(a, one), "seen", a, one);
    }
  }

  private void sheetCall() {
    int s = upTo(3), t = upTo(3), form = upTo(2), size = upTo(60), i = upTo(12), j = upTo(12), n = upTo(12);
    int v = random.nextInt(3) == 0 ? random.nextInt() : upTo(5);
    switch (random.nextInt(10)) {
      case 0:
      case 1: {
        int few = random.nextBoolean() ? size : n;
        due(house.sheet(s, form, few), model.sheet(s, form, few), "sheet", s, form, few);
        break;
      }
      case 2: if (random.nextInt(3) == 0) due(house.lose(s), model.lose(s), "lose", s); break;
      case 3:
      case 4: due(house.put(s, form, i, v), model.put(s, form, i, v), "put", s, form, i, v); break;
      case 5: due(house.get(s, form, i), model.get(s, form, i), "get", s, form, i); break;
      case 6:
      case 7: due(house.copy(s, i, t, j, n), model.copy(s, i, t, j, n), "copy", s, i, t, j, n); break;
      case 8: due(house.write(s), model.write(s), "write", s); break;
      default: due(house.read(s), model.read(s), "read", s);
    }
    due(house.count(8), model.count(8), "count", 8);
    for (int k = 0; k < 3; k++) due(house.get(s, form, k), model.get(s, form, k), "get", s, form, k);
  }

  private void ask() {
    int night = upTo(9), m = upTo(7), what = upTo(4), one = upTo(2), two = upTo(1), c = upTo(16), last = upTo(9), seed = random.nextInt();
    switch (random.nextInt(18)) {
      case 0: due(house.member(m, what), model.member(m, what), "member", m, what); break;
      case 1: due(house.motion(night, one), model.motion(night, one), "motion", night, one); break;
      case 2: due(house.lies(night, m, one), model.lies(night, m, one), "lies", night, m, one); break;
      case 3: due(house.vote(night, what), model.vote(night, what), "vote", night, what); break;
      case 4: due(house.house(night), model.house(night), "house", night); break;
      case 5: due(house.told(), model.told(), "told"); break;
      case 6: due(house.pleased(), model.pleased(), "pleased"); break;
      case 7: due(house.lift(night, one - 1), model.lift(night, one - 1), "lift", night, one - 1); break;
      case 8: due(house.agenda(one), model.agenda(one), "agenda", one); break;
      case 9: due(house.power(m, two), model.power(m, two), "power", m, two); break;
      case 10: due(house.ring(), model.ring(), "ring"); break;
      case 11: due(house.sham(night, m), model.sham(night, m), "sham", night, m); break;
      case 12: due(house.never(), model.never(), "never"); break;
      case 13: due(house.would(m), model.would(m), "would", m); break;
      case 14: due(house.ask(m), model.ask(m), "ask", m); break;
      case 15: due(house.ajar(c, last, one, night, two), model.ajar(c, last, one, night, two), "ajar", c, last, one, night, two); break;
      case 16: due(house.evenings(seed, two), model.evenings(seed, two), "evenings", seed, two); break;
      default: {
        int k = upTo(8);
        due(house.count(k), model.count(k), "count", k);
      }
    }
  }

  private void go() {
    typeMembers();
    typeMotions();
    int start = calls;
    while (calls - start < CALLS - 110) {
      int dice = random.nextInt(100);
      if (dice < 3) typeMembers();
      else if (dice < 5) typeMotions();
      else if (dice < 12) textCall();
      else if (dice < 32) change();
      else if (dice < 50) sheetCall();
      else if (dice < 97) ask();
      else due(house.digest(), model.digest(), "digest");
    }
    due(house.digest(), model.digest(), "digest");
  }

  public static void main(String[] args) {
    for (int run = 0; run < RUNS; run++) new RandomRunsTest(run).go();
    System.out.println(calls + " calls in " + RUNS + " random runs, " + wrong + " answers not as due");
    if (wrong != 0) System.exit(1);
  }
}
