import java.util.LinkedHashMap;
import java.util.Map;
import java.util.function.Supplier;
import java.util.function.ToIntFunction;

/**
 * 'NONE, and nothing else', in each state that a line can be in: an object that refused a call goes
 * on as one that was never asked.
 */
final class OfRefusals {
  private static final Checks C = Checks.ALL;

  private OfRefusals() {
  }

  static void run() {
    for (Map.Entry<String, Supplier<Guard>> state : states().entrySet()) {
      for (Map.Entry<String, ToIntFunction<Guard>> call : wrongCalls().entrySet()) {
        nothingElse(state.getKey(), state.getValue(), call.getKey(), call.getValue());
      }
    }
    stateOf("new", "start prove send take answer accept seal secret");
    stateOf("unlike", "start prove send take answer accept seal secret");
    stateOf("keyed", "prove send take answer accept seal secret");
    stateOf("caller none", "prove send take answer accept seal secret");
    stateOf("begun", "send take answer accept");
    stateOf("proved", "prove answer accept");
    stateOf("level 0", "prove send take answer accept");
    stateOf("level 1", "prove take answer accept");
    stateOf("level 3", "prove take answer accept");
    stateOf("level 17", "prove take answer accept");
    stateOf("level 19", "prove take answer accept");
    stateOf("sent", "prove answer");
    stateOf("taken", "prove take");
    stateOf("answered", "prove");
    stateOf("accepted", "prove take");
    stateOf("holder none", "prove take answer");
  }

  private static Map<String, Supplier<Guard>> states() {
    Map<String, Supplier<Guard>> all = new LinkedHashMap<>();
    all.put("new", Guard::new);
    for (int rule = 2; rule <= 3; rule++) {
      addStates(all, rule);
    }
    all.put("level 51 by 3", () -> Guard.opened(3, 0x33));
    return all;
  }

  private static void addStates(Map<String, Supplier<Guard>> all, int rule) {
    int level = rule == 2 ? 0x13 : 0x33;
    String by = " by " + rule;
    all.put("unlike" + by, () -> with(Guard.keyed(rule), x -> x.keys(0, 5 - rule, Face.KEYS)));
    all.put("keyed" + by, () -> Guard.keyed(rule));
    all.put("caller none" + by, () -> callerNone(rule));
    all.put("begun" + by, () -> Guard.begun(rule));
    all.put("proved" + by, () -> with(Guard.begun(rule), x -> x.prove(level)));
    for (int one : new int[] {0, 1, 3, 0x11, 0x13}) {
      all.put("level " + one + by, () -> Guard.opened(rule, one));
    }
    String command = "8001020304";
    all.put("sent" + by, () -> with(Guard.opened(rule, level), x -> x.send(command)));
    all.put("taken" + by, () -> Guard.commanded(rule, level, command));
    all.put("answered" + by, () -> answered(rule, level));
    all.put("accepted" + by, () -> with(answered(rule, level), x -> x.accept(0x9000)));
    all.put("holder none" + by, () -> with(Guard.commanded(rule, level, command), x -> {
      x.slip("01");
      return x.take();
    }));
  }

  private static Guard with(Guard x, ToIntFunction<Guard> call) {
    call.applyAsInt(x);
    return x;
  }

  private static Guard callerNone(int rule) {
    Guard x = Guard.begun(rule);
    x.keys(0, rule, "fefe" + Face.KEYS.substring(4, 32) + "fe" + Face.KEYS.substring(34));
    x.start(1);
    return x;
  }

  private static Guard answered(int rule, int level) {
    return with(Guard.commanded(rule, level, "8001020304"), x -> x.answer("6162", 0x9000));
  }

  /** Calls that no state makes right. */
  private static Map<String, ToIntFunction<Guard>> wrongCalls() {
    Map<String, ToIntFunction<Guard>> all = new LinkedHashMap<>();
    all.put("end(-1)", x -> x.end(-1));
    all.put("end(1)", x -> x.end(1));
    all.put("out(-1)", x -> x.out(-1));
    all.put("out(400)", x -> x.out(400));
    all.put("line(-1)", x -> x.line(-1));
    all.put("line(300)", x -> x.line(300));
    all.put("alter(-1, 1)", x -> x.alter(-1, 1));
    all.put("alter(behind, 1)", x -> x.alter(x.about(0, 5), 1));
    all.put("cut(-1)", x -> x.cut(-1));
    all.put("cut(behind)", x -> x.cut(x.about(0, 5) + 1));
    all.put("slip of 301", x -> x.slip(Checks.many("5a", 301)));
    all.put("keys of 47", x -> x.keys(0, 2, Checks.many("5a", 47)));
    all.put("keys of 72 by 2", x -> x.keys(1, 2, Checks.many("5a", 72)));
    all.put("keys of 49 by 3", x -> x.keys(1, 3, Checks.many("5a", 49)));
    all.put("keys by 1", x -> x.keys(0, 1, Checks.many("5a", 48)));
    all.put("keys by 4", x -> x.keys(1, 4, Checks.many("5a", 48)));
    all.put("keys of -1", x -> x.keys(-1, 2, Checks.many("5a", 48)));
    all.put("keys of 2", x -> x.keys(2, 3, Checks.many("5a", 48)));
    all.put("name of 17", x -> x.name(Checks.many("5a", 17)));
    all.put("counter(-1)", x -> x.counter(-1));
    all.put("counter(0x1000000)", x -> x.counter(0x1000000));
    all.put("prove(-1)", x -> x.prove(-1));
    all.put("prove(2)", x -> x.prove(2));
    all.put("prove(0x10)", x -> x.prove(0x10));
    all.put("prove(0x103)", x -> x.prove(0x103));
    all.put("send of 0", x -> x.send(""));
    all.put("send of 3", x -> x.send("5a5a5a"));
    all.put("send of 205", x -> x.send(Checks.many("5a", 205)));
    all.put("answer of 201", x -> x.answer(Checks.many("5a", 201), 0x9000));
    all.put("answer(-1)", x -> x.answer("5a", -1));
    all.put("answer(0x10000)", x -> x.answer("5a", 0x10000));
    all.put("accept(-1)", x -> x.accept(-1));
    all.put("accept(0x10000)", x -> x.accept(0x10000));
    all.put("seal of 0", x -> x.seal(0, false, ""));
    all.put("seal of 7", x -> x.seal(0, false, Checks.many("5a", 7)));
    all.put("seal of 17", x -> x.seal(1, true, Checks.many("5a", 17)));
    all.put("seal of -1", x -> x.seal(-1, false, Checks.many("5a", 16)));
    all.put("seal of 2", x -> x.seal(2, true, Checks.many("5a", 16)));
    all.put("secret of 2", x -> x.secret(2, 0, 0));
    all.put("secret 7", x -> x.secret(0, 7, 0));
    all.put("secret(1, 0, 32)", x -> x.secret(1, 0, 32));
    all.put("secret(0, 6, -1)", x -> x.secret(0, 6, -1));
    all.put("about of 2", x -> x.about(2, 4));
    all.put("about 7", x -> x.about(0, 7));
    return all;
  }

  private static int call(Guard x, String name) {
    switch (name) {
      case "start": return x.start(1);
      case "prove": return x.prove(0x11);
      case "send": return x.send("00010203");
      case "take": return x.take();
      case "answer": return x.answer("5a", 0x9000);
      case "accept": return x.accept(0x9000);
      case "seal": return x.seal(0, false, Checks.many("5a", 16));
      default: return x.secret(0, 0, 0);
    }
  }

  /** Calls, by their names, that are refused in a state by both rules. */
  private static void stateOf(String name, String calls) {
    for (Map.Entry<String, Supplier<Guard>> state : states().entrySet()) {
      if (state.getKey().split(" by ")[0].equals(name)) {
        for (String call : calls.split(" ")) {
          nothingElse(state.getKey(), state.getValue(), call, x -> call(x, call));
        }
      }
    }
  }

  private static void nothingElse(String state, Supplier<Guard> made, String name,
      ToIntFunction<Guard> call) {
    C.part("nothing else, " + state);
    for (boolean accepts : new boolean[] {true, false}) {
      Guard asked = made.get();
      Guard other = made.get();
      C.due(name, call.applyAsInt(asked), Face.NONE);
      C.due(name + ", then end(1)", asked.end(1), Face.NONE);
      C.due(name + ", then all that shows", shown(asked), shown(other));
      C.due(name + ", then what follows", follow(asked, accepts), follow(other, accepts));
    }
  }

  private static String shown(Guard x) {
    StringBuilder all = new StringBuilder();
    for (int side = 0; side < 2; side++) {
      for (int what = 0; what < 7; what++) {
        all.append(x.about(side, what)).append(' ');
      }
      for (int which = 0; which < 7; which++) {
        all.append(x.secret(side, which, 0)).append(' ');
      }
    }
    return all.append(x.line()).append(' ').append(x.out()).toString();
  }

  /** Codes, chains, counts, keys, the name and the counter show in what the two go on to tell. */
  private static String follow(Guard x, boolean accepts) {
    StringBuilder all = new StringBuilder();
    all.append(accepts ? x.accept(0x9000) : x.take()).append(' ').append(x.out()).append(' ');
    all.append(x.answer("63", 0x9000)).append(' ').append(x.line()).append(' ');
    all.append(x.accept(0x9000)).append(' ');
    all.append(x.send("8005060708")).append(' ').append(x.line()).append(' ');
    all.append(x.take()).append(' ').append(x.out()).append(' ');
    all.append(x.answer("64", 0x9000)).append(' ').append(x.line()).append(' ');
    all.append(x.accept(0x9000)).append(' ').append(x.out()).append(' ');
    all.append(x.prove(1)).append(' ').append(x.take()).append(' ');
    all.append(x.start(9)).append(' ');
    for (int side = 0; side < 2; side++) {
      for (int which = 0; which < 7; which++) {
        all.append(x.secret(side, which, 1)).append(' ');
      }
    }
    return all.append(x.prove(0x11)).append(' ').append(x.take()).append(' ').append(x.sessions())
        .toString();
  }
}
