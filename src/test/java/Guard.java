/**
 * A LineGuard that tests call: each answer is held against the Reference's. A call behind the 512th
 * is refused, since the document leaves its answer free.
 */
final class Guard implements Face {
  static final int CALLS_MOST = 512;

  final Reference ref = new Reference();
  private final LineGuard x = new LineGuard();
  private int calls = 0;

  static Guard keyed(int rule) {
    Guard x = new Guard();
    x.key(rule, KEYS);
    return x;
  }

  static Guard begun(int rule) {
    Guard x = new Guard();
    x.begin(rule);
    return x;
  }

  /** Both sides open, by a level. */
  static Guard opened(int rule, int level) {
    Guard x = new Guard();
    x.open(rule, level);
    return x;
  }

  static Guard commanded(int rule, int level, String command) {
    Guard x = opened(rule, level);
    x.command(command);
    return x;
  }

  int calls() {
    return calls;
  }

  private int held(String call, int got, int want) {
    calls++;
    if (calls > CALLS_MOST) {
      throw new IllegalStateException("a call behind the " + CALLS_MOST + "th");
    }
    if (got != want) {
      Checks.ALL.fault(call + " answered " + got + ", the Reference " + want);
    }
    return got;
  }

  public int feed(int a, int b, int c, int d, int e) {
    return held("feed", x.feed(a, b, c, d, e), ref.feed(a, b, c, d, e));
  }

  public int end(int n) {
    return held("end(" + n + ")", x.end(n), ref.end(n));
  }

  public int out(int i) {
    return held("out(" + i + ")", x.out(i), ref.out(i));
  }

  public int line(int i) {
    return held("line(" + i + ")", x.line(i), ref.line(i));
  }

  public int alter(int i, int by) {
    return held("alter(" + i + ", " + by + ")", x.alter(i, by), ref.alter(i, by));
  }

  public int cut(int n) {
    return held("cut(" + n + ")", x.cut(n), ref.cut(n));
  }

  public int slip() {
    return held("slip()", x.slip(), ref.slip());
  }

  public int keys(int side, int rule) {
    return held("keys(" + side + ", " + rule + ")", x.keys(side, rule), ref.keys(side, rule));
  }

  public int name() {
    return held("name()", x.name(), ref.name());
  }

  public int counter(int n) {
    return held("counter(" + n + ")", x.counter(n), ref.counter(n));
  }

  public int start(long h) {
    return held("start(" + h + ")", x.start(h), ref.start(h));
  }

  public int prove(int level) {
    return held("prove(" + level + ")", x.prove(level), ref.prove(level));
  }

  public int send() {
    return held("send()", x.send(), ref.send());
  }

  public int take() {
    return held("take()", x.take(), ref.take());
  }

  public int answer(int sw) {
    return held("answer(" + sw + ")", x.answer(sw), ref.answer(sw));
  }

  public int accept(int sw) {
    return held("accept(" + sw + ")", x.accept(sw), ref.accept(sw));
  }

  public int seal(int side, boolean back) {
    return held("seal(" + side + ", " + back + ")", x.seal(side, back), ref.seal(side, back));
  }

  public int secret(int side, int which, int i) {
    return held("secret(" + side + ", " + which + ", " + i + ")", x.secret(side, which, i),
        ref.secret(side, which, i));
  }

  public int about(int side, int what) {
    return held("about(" + side + ", " + what + ")", x.about(side, what), ref.about(side, what));
  }
}
