import java.util.HexFormat;

/** Due answers, counted; one object for all that a test's main method runs. */
final class Checks {
  static final Checks ALL = new Checks();

  /** More lines would hide the first ones, which tell the cause. */
  private static final int LINES_MOST = 100;

  private int wrong = 0;
  private String part = "";
  private Document document = null;

  private Checks() {
  }

  void part(String name) {
    part = name;
  }

  /** The document that sentences are looked for in; without one they are only names. */
  void document(Document read) {
    document = read;
  }

  /** What follows is due by this sentence of a section. */
  void sentence(String section, String words) {
    part = section + ", '" + words + "'";
    if (document != null && !document.mark(section, words)) {
      fault("no such sentence in the document");
    }
  }

  void due(String call, long got, long want) {
    if (got != want) {
      fault(call + " answered " + got + ", due is " + want);
    }
  }

  void due(String call, String got, String want) {
    if (!got.equals(want)) {
      fault(call + " answered " + got + ", due is " + want);
    }
  }

  void unlike(String call, String got, String other) {
    if (got.equals(other)) {
      fault(call + " answered " + got + ", due is another");
    }
  }

  void fault(String what) {
    wrong++;
    if (wrong <= LINES_MOST) {
      System.out.println(part + ": " + what);
    }
  }

  int faults() {
    return wrong;
  }

  void end() {
    System.out.println(wrong == 0 ? "all answers are as due" : wrong + " answers are not as due");
    if (wrong != 0) {
      System.exit(1);
    }
  }

  static byte[] bytes(String hex) {
    return HexFormat.of().parseHex(hex.replace(" ", ""));
  }

  static String hex(byte[] bytes) {
    return HexFormat.of().formatHex(bytes);
  }

  static String many(String hex, int times) {
    return hex.repeat(times);
  }

  /** So many bytes 1, 2, 3 ..: no two places look alike. */
  static String rising(int count) {
    StringBuilder all = new StringBuilder();
    for (int i = 1; i <= count; i++) {
      all.append(HexFormat.of().toHexDigits((byte) i));
    }
    return all.toString();
  }
}
