import java.util.LinkedHashMap;
import java.util.Map;
import java.util.function.ToIntFunction;

/** A call changes what its promise names, and nothing if it is refused: the rest stays as it was. */
final class OfRests {
  private static final Checks C = Checks.ALL;
  private static final String COMMAND = "8001020304050607";

  private OfRests() {
  }

  static void run() {
    for (int rule = 2; rule <= 3; rule++) {
      looks(rule);
      tapeAndLine(rule);
      keysAndNumbers(rule);
      sessions(rule);
      commands(rule);
      refused(rule);
      refusedSessions(rule);
    }
  }

  private static int level(int rule) {
    return rule == 2 ? 0x13 : 0x33;
  }

  /** All that shows but THE TAPE: a part for each name that the tests below tell. */
  private static Map<String, String> parts(Guard x) {
    Map<String, String> all = new LinkedHashMap<>();
    all.put("out", x.out());
    all.put("line", x.line());
    all.put("counter", "" + x.about(0, 4));
    for (int side = 0; side < 2; side++) {
      String name = side == 0 ? "caller" : "holder";
      StringBuilder session = new StringBuilder();
      session.append(x.about(side, 0)).append(' ').append(x.about(side, 1));
      for (int which = 0; which < 7; which++) {
        session.append(' ').append(x.secret(side, which, 0)).append(' ').append(x.secret(side, which, 5));
      }
      all.put(name, session.toString());
      all.put(name + "'s keys", x.about(side, 2) + " " + x.about(side, 3));
    }
    return all;
  }

  /** The tape has the bytes told; then the call changes these parts alone, told by commas. */
  private static void changes(String name, Guard x, String tape, ToIntFunction<Guard> call,
      int answer, String changed) {
    C.part("what stays, " + name);
    x.tape(tape);
    Map<String, String> before = parts(x);
    C.due("call", call.applyAsInt(x), answer);
    Map<String, String> after = parts(x);
    for (String part : before.keySet()) {
      if (("," + changed + ",").contains("," + part + ",")) {
        C.unlike(part, after.get(part), before.get(part));
      } else {
        C.due(part, after.get(part), before.get(part));
      }
    }
    int left = changed.contains("tape") ? 0 : tape.length() / 2;
    C.due("the tape", x.end(left + 1), Face.NONE);
    C.due("the tape", x.end(left), left);
    int shown = left < 20 ? left : 20;
    x.end(shown);
    x.slip();
    C.due("the tape", x.line(), tape.substring(0, 2 * shown));
  }

  /** Both open, a command in the out, another's line on the line. */
  private static Guard full(int rule) {
    Guard x = Guard.commanded(rule, level(rule), COMMAND);
    x.slip("0102030405060708090a");
    return x;
  }

  private static void looks(int rule) {
    changes("out", full(rule), "aabbcc", x -> x.out(1), 1, "");
    changes("line", full(rule), "aabbcc", x -> x.line(1), 2, "");
    changes("secret", full(rule), "aabbcc", x -> x.secret(0, 3, 99), Face.NONE, "");
    changes("about", full(rule), "aabbcc", x -> x.about(1, 0), 2, "");
    changes("end", full(rule), "aabbcc", x -> x.end(3), 3, "");
  }

  private static void tapeAndLine(int rule) {
    changes("alter", full(rule), "aabbcc", x -> x.alter(9, 1), 11, "line");
    changes("cut", full(rule), "aabbcc", x -> x.cut(9), 9, "line");
    changes("slip", full(rule), "aabbcc", x -> x.slip(), 3, "line,tape");
    changes("feed", full(rule), "aabbcc", x -> {
      int count = x.feed(1, 2, 3, 4, 5);
      x.end(3);
      return count;
    }, 23, "");
    String block = Checks.many("5a", 16);
    changes("seal", full(rule), block, x -> x.seal(0, false), 16, "out,tape");
    changes("seal back", full(rule), block, x -> x.seal(1, true), 16, "out,tape");
  }

  private static void keysAndNumbers(int rule) {
    String all = "line,caller,holder,tape";
    int other = 5 - rule;
    changes("keys of the caller", full(rule), Face.KEYS, x -> x.keys(0, rule), 1, all);
    changes("keys of the holder", full(rule), Face.KEYS, x -> x.keys(1, rule), 1, all);
    changes("other keys of the caller", full(rule), Face.KEYS, x -> x.keys(0, other), 1,
        all + ",caller's keys");
    changes("other keys of the holder", full(rule), Face.KEYS, x -> x.keys(1, other), 1,
        all + ",holder's keys");
    changes("name", full(rule), "41", x -> x.name(), 1, all);
    changes("no name", full(rule), "", x -> x.name(), 0, all);
    changes("counter", full(rule), "aabbcc", x -> x.counter(7), 1, "counter");
  }

  private static void sessions(int rule) {
    changes("start", full(rule), "aabbcc", x -> x.start(1), 1, "line,caller,holder");
    Guard unlike = full(rule);
    unlike.keys(0, rule, "fefe" + Face.KEYS.substring(4, 32) + "fe" + Face.KEYS.substring(34));
    unlike.slip("0102");
    changes("start with another proof", unlike, "aabbcc", x -> x.start(1), 0, "line,holder");
    Guard begun = full(rule);
    begun.start(1);
    changes("prove", begun, "aabbcc", x -> x.prove(0x11), 20, "line,caller");
    Guard proved = full(rule);
    proved.start(1);
    proved.prove(0x11);
    changes("take the proving one", proved, "aabbcc", x -> x.take(), 0x9000, "line,holder,counter");
    Guard altered = full(rule);
    altered.start(1);
    altered.prove(0x11);
    altered.alter(19, 1);
    changes("take an altered one", altered, "aabbcc", x -> x.take(), 0x6300, "line,holder");
  }

  private static void commands(int rule) {
    int length = rule == 2 ? 20 : 28;
    changes("send", full(rule), "8001020305", x -> x.send(), length, "line,tape");
    Guard sent = full(rule);
    sent.send("8001020305");
    changes("take", sent, "aabbcc", x -> x.take(), 0x9000, "line,out");
    changes("take another's", full(rule), "aabbcc", x -> x.take(), 0x6982, "line,holder");
    changes("answer", full(rule), "61", x -> x.answer(0), rule == 2 ? 9 : 24, "line,tape");
    Guard answered = full(rule);
    answered.answer("61", 0);
    changes("accept", answered, "aabbcc", x -> x.accept(0), 1, "line,out");
    changes("accept another's", full(rule), "aabbcc", x -> x.accept(0), 0, "line");
  }

  /** Those that take up no tape leave it when they are refused, too. */
  private static void refused(int rule) {
    Map<String, ToIntFunction<Guard>> calls = new LinkedHashMap<>();
    calls.put("end(-1)", x -> x.end(-1));
    calls.put("end(4)", x -> x.end(4));
    calls.put("out(8)", x -> x.out(8));
    calls.put("line(10)", x -> x.line(10));
    calls.put("alter(-1, 1)", x -> x.alter(-1, 1));
    calls.put("alter(10, 1)", x -> x.alter(10, 1));
    calls.put("cut(-1)", x -> x.cut(-1));
    calls.put("cut(11)", x -> x.cut(11));
    calls.put("counter(-1)", x -> x.counter(-1));
    calls.put("counter(0x1000000)", x -> x.counter(0x1000000));
    calls.put("prove(1)", x -> x.prove(1));
    calls.put("accept(-1)", x -> x.accept(-1));
    calls.put("accept(0x10000)", x -> x.accept(0x10000));
    calls.put("secret(0, 0, 16)", x -> x.secret(0, 0, 16));
    calls.put("secret(0, 7, 0)", x -> x.secret(0, 7, 0));
    calls.put("secret(2, 0, 0)", x -> x.secret(2, 0, 0));
    calls.put("about(0, 7)", x -> x.about(0, 7));
    calls.put("about(2, 0)", x -> x.about(2, 0));
    calls.forEach((name, call) -> changes(name, full(rule), "aabbcc", call, Face.NONE, ""));
    for (int size : new int[] {381, 400}) {
      changes("feed behind " + size, full(rule), Checks.rising(size), x -> x.feed(1, 2, 3, 4, 5),
          Face.NONE, "");
    }
  }

  private static void refusedSessions(int rule) {
    Guard unlike = full(rule);
    unlike.keys(1, 5 - rule, Face.KEYS);
    unlike.slip("0102");
    changes("start by unlike keys", unlike, "aabbcc", x -> x.start(1), Face.NONE, "");
    Guard keyed = full(rule);
    keyed.name("");
    keyed.slip("0102");
    changes("prove without session", keyed, "aabbcc", x -> x.prove(1), Face.NONE, "");
    keyed.slip("0102");
    changes("take without session", keyed, "aabbcc", x -> x.take(), Face.NONE, "");
    keyed.slip("0102");
    changes("accept without session", keyed, "aabbcc", x -> x.accept(1), Face.NONE, "");
    Guard open = full(rule);
    open.cut(0);
    changes("take an empty line", open, "aabbcc", x -> x.take(), Face.NONE, "");
    Guard begun = full(rule);
    begun.start(1);
    changes("take an empty line, begun", begun, "aabbcc", x -> x.take(), Face.NONE, "");
    begun.slip("0102");
    changes("accept, begun", begun, "aabbcc", x -> x.accept(1), Face.NONE, "");
    begun.slip("0102");
    changes("prove(2)", begun, "aabbcc", x -> x.prove(2), Face.NONE, "");
    Guard closed = full(rule);
    closed.start(1);
    closed.prove(0);
    closed.take();
    closed.slip("0102");
    changes("take by level 0", closed, "aabbcc", x -> x.take(), Face.NONE, "");
  }
}
