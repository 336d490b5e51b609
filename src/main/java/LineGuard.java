/** A guarded line between a CALLER (side 0) and a HOLDER (side 1). */
public final class LineGuard {
  public static final int NONE = -1;

  private static final int NO_SESSION = 0;
  private static final int BEGUN = 1;
  private static final int OPEN = 2;

  private static final int LEVEL_CODES = 1;
  private static final int LEVEL_HIDDEN = 2;
  private static final int LEVEL_BACK_CODES = 0x10;
  private static final int LEVEL_BACK_HIDDEN = 0x20;

  private static final int TAPE_MOST = 400;
  private static final int LINE_MOST = 300;
  private static final int NAME_MOST = 16;
  private static final int DATA_MOST = 200;
  private static final int COUNTER_MOST = 0xFFFFFF;
  private static final int SW_MOST = 0xFFFF;
  private static final int KEY_MOST = 32;
  private static final int FEED_BYTES = 20;

  private static final int HEAD = 4;
  private static final int CODE = 8;
  private static final int SECURED_BIT = 4;
  private static final int CHANNEL_BITS = 3;
  private static final int PROVING_CLA = 0x84;
  private static final int PROVING_INS = 0x82;

  private static final int SW_DONE = 0x9000;
  private static final int SW_NOT_PROVED = 0x6300;
  private static final int SW_NOT_SECURED = 0x6982;

  private final Row theTape = new Row(TAPE_MOST);
  private final Row theOut = new Row(TAPE_MOST);
  private final Row theLine = new Row(LINE_MOST);
  private final Row theName = new Row(NAME_MOST);
  private final Keys callerKeys = new Keys();
  private final Keys holderKeys = new Keys();
  private final Session caller = new Session();
  private final Session holder = new Session();
  private final Rule older = new OlderRule();
  private final Rule newer = new NewerRule();
  private int counterNow = 0;

  public LineGuard() {
  }

  public int feed(int a, int b, int c, int d, int e) {
    if (theTape.size() + FEED_BYTES > TAPE_MOST) {
      return NONE;
    }
    theTape.addNumber(a, 4);
    theTape.addNumber(b, 4);
    theTape.addNumber(c, 4);
    theTape.addNumber(d, 4);
    theTape.addNumber(e, 4);
    return theTape.size();
  }

  public int end(int n) {
    return theTape.shorten(n) ? n : NONE;
  }

  public int out(int i) {
    return theOut.at(i);
  }

  public int line(int i) {
    return theLine.at(i);
  }

  public int alter(int i, int x) {
    if (i < 0 || i >= theLine.size()) {
      return NONE;
    }
    theLine.put(i, theLine.at(i) ^ x);
    return theLine.at(i);
  }

  public int cut(int n) {
    return theLine.shorten(n) ? n : NONE;
  }

  public int slip() {
    int count = theTape.size();
    if (count <= LINE_MOST) {
      theLine.copy(theTape);
    }
    theTape.clear();
    return count <= LINE_MOST ? count : NONE;
  }

  public int keys(int side, int rule) {
    Keys keys = keysOf(side);
    boolean told = keys != null && keys.tell(rule, theTape);
    theTape.clear();
    if (!told) {
      return NONE;
    }
    forgetSessions();
    return 1;
  }

  public int name() {
    int count = theTape.size();
    boolean told = count <= NAME_MOST;
    if (told) {
      theName.copy(theTape);
      forgetSessions();
    }
    theTape.clear();
    return told ? count : NONE;
  }

  public int counter(int n) {
    if (n < 0 || n > COUNTER_MOST) {
      return NONE;
    }
    counterNow = n;
    return 1;
  }

  public int start(long h) {
    if (callerKeys.rule == 0 || callerKeys.rule != holderKeys.rule
        || callerKeys.length != holderKeys.length) {
      return NONE;
    }
    Rule rule = ruleOf(holderKeys);
    theLine.clear();
    rule.makeChallenge(holderKeys, holder, counterNow, theName);
    rule.makeSession(holderKeys, holder, h, counterNow);
    holder.begin();
    caller.challenge.copy(holder.challenge);
    rule.makeSession(callerKeys, caller, h, counterNow);
    if (!caller.holderProof.same(holder.holderProof)) {
      caller.finish();
      return 0;
    }
    caller.begin();
    return 1;
  }

  public int prove(int level) {
    Rule rule = ruleOf(callerKeys);
    if (caller.state != BEGUN || !rule.hasLevel(level)) {
      return NONE;
    }
    caller.command.clear();
    caller.command.add(PROVING_CLA);
    caller.command.add(PROVING_INS);
    caller.command.add(level);
    caller.command.add(0);
    caller.command.addAll(caller.callerProof);
    rule.secure(caller, theLine);
    caller.open(level);
    return theLine.size();
  }

  public int send() {
    int count = theTape.size();
    boolean sent = caller.isOpenWith(LEVEL_CODES) && count >= HEAD && count <= HEAD + DATA_MOST;
    if (sent) {
      caller.command.copy(theTape);
      caller.count++;
      caller.commanded = true;
      ruleOf(callerKeys).secure(caller, theLine);
    }
    theTape.clear();
    return sent ? theLine.size() : NONE;
  }

  public int take() {
    boolean proving = holder.state == BEGUN;
    if (theLine.size() == 0 || !proving && !holder.isOpenWith(LEVEL_CODES)) {
      return NONE;
    }
    Rule rule = ruleOf(holderKeys);
    int level = theLine.at(2);
    if (!proving) {
      holder.count++;
    }
    boolean right = (!proving || isProving(rule)) && rule.openSecured(holder, theLine);
    theLine.clear();
    if (!right) {
      holder.finish();
      return proving ? SW_NOT_PROVED : SW_NOT_SECURED;
    }
    if (proving) {
      holder.open(level);
      counterNow = (counterNow + 1) & COUNTER_MOST;
    } else {
      holder.commanded = true;
      theOut.copy(holder.command);
    }
    return SW_DONE;
  }

  public int answer(int sw) {
    boolean answered = holder.isAnswerable() && isSw(sw) && theTape.size() <= DATA_MOST;
    if (answered) {
      ruleOf(holderKeys).secureAnswer(holder, theTape, sw, theLine);
    }
    theTape.clear();
    return answered ? theLine.size() : NONE;
  }

  public int accept(int sw) {
    if (!caller.isAnswerable() || !isSw(sw)) {
      return NONE;
    }
    boolean secured = ruleOf(callerKeys).openAnswer(caller, theLine, sw, theOut);
    theLine.clear();
    return secured ? 1 : 0;
  }

  public int seal(int side, boolean back) {
    Session session = sessionOf(side);
    Rule rule = ruleOf(side == 0 ? callerKeys : holderKeys);
    int count = theTape.size();
    boolean sealed = session != null && session.state != NO_SESSION
        && count > 0 && rule.isBlocks(count);
    if (sealed) {
      theOut.copy(theTape);
      rule.sealWith(session.seal, theOut, back);
    }
    theTape.clear();
    return sealed ? count : NONE;
  }

  public int secret(int side, int which, int i) {
    Session session = sessionOf(side);
    if (session == null || session.state == NO_SESSION) {
      return NONE;
    }
    Row row = session.secretRow(which);
    return row == null ? NONE : row.at(i);
  }

  public int about(int side, int what) {
    Session session = sessionOf(side);
    Keys keys = keysOf(side);
    if (session == null || keys == null) {
      return NONE;
    }
    switch (what) {
      case 0: return session.state;
      case 1: return session.level;
      case 2: return keys.rule;
      case 3: return keys.length;
      case 4: return counterNow;
      case 5: return theLine.size();
      case 6: return theOut.size();
      default: return NONE;
    }
  }

  private Keys keysOf(int side) {
    return side == 0 ? callerKeys : side == 1 ? holderKeys : null;
  }

  private Session sessionOf(int side) {
    return side == 0 ? caller : side == 1 ? holder : null;
  }

  private Rule ruleOf(Keys keys) {
    return keys.rule == 3 ? newer : older;
  }

  private void forgetSessions() {
    caller.finish();
    holder.finish();
    theLine.clear();
  }

  private static boolean isSw(int sw) {
    return sw >= 0 && sw <= SW_MOST;
  }

  /** Whether the line is a proving command, but for its MAC. */
  private boolean isProving(Rule rule) {
    return theLine.size() == HEAD + CODE + CODE
        && theLine.at(0) == PROVING_CLA && theLine.at(1) == PROVING_INS
        && rule.hasLevel(theLine.at(2)) && theLine.at(3) == 0
        && theLine.hasAt(HEAD, holder.callerProof, CODE);
  }

  /** Bytes in a row that is made once; what goes beyond its room is left out. */
  private static final class Row {
    private final int[] bytes;
    private int size = 0;

    Row(int room) {
      bytes = new int[room < 0 ? 0 : room];
    }

    int size() {
      return size;
    }

    int at(int i) {
      return i >= 0 && i < size ? bytes[i] : NONE;
    }

    void put(int i, int x) {
      if (i >= 0 && i < size) {
        bytes[i] = x & 255;
      }
    }

    void clear() {
      size = 0;
    }

    boolean shorten(int n) {
      if (n < 0 || n > size) {
        return false;
      }
      size = n;
      return true;
    }

    void add(int x) {
      if (size < bytes.length) {
        bytes[size] = x & 255;
        size++;
      }
    }

    /** The lowest count bytes of x, the highest of them first; count is at most 8. */
    void addNumber(long x, int count) {
      for (int i = count - 1; i >= 0; i--) {
        add((int) (x >>> (8 * i)));
      }
    }

    void addZeros(int count) {
      for (int i = 0; i < count; i++) {
        add(0);
      }
    }

    /** Another row's bytes from one index up to, and without, another. */
    void addPart(Row other, int from, int to) {
      for (int i = from; i < to && i < other.size; i++) {
        add(other.at(i));
      }
    }

    void addAll(Row other) {
      addPart(other, 0, other.size);
    }

    void copy(Row other) {
      clear();
      addPart(other, 0, other.size);
    }

    void copyPart(Row other, int from, int to) {
      clear();
      addPart(other, from, to);
    }

    /** Up to a multiple of the width, a power of 2. */
    void pad(int width) {
      add(0x80);
      for (int i = 1; i < width && (size & (width - 1)) != 0; i++) {
        add(0);
      }
    }

    /** False if what the padding leaves is wrong. */
    boolean unpad() {
      int last = size - 1;
      while (last > 0 && at(last) == 0) {
        last--;
      }
      if (last < 1 || at(last) != 0x80) {
        return false;
      }
      size = last;
      return true;
    }

    boolean same(Row other) {
      return size == other.size && hasAt(0, other, size);
    }

    boolean endsWithCode(Row code) {
      return size >= CODE && code.size >= CODE && hasAt(size - CODE, code, CODE);
    }

    boolean hasAt(int from, Row other, int count) {
      for (int i = 0; i < count; i++) {
        if (at(from + i) != other.at(i)) {
          return false;
        }
      }
      return true;
    }
  }

  /** What a side was told: a rule (0 is none) and three keys of one length. */
  private static final class Keys {
    private int rule = 0;
    private int length = 0;
    private final Row enc = new Row(KEY_MOST);
    private final Row mac = new Row(KEY_MOST);
    private final Row seal = new Row(KEY_MOST);

    boolean tell(int toldRule, Row tape) {
      int n = tape.size() / 3;
      boolean longer = toldRule == 3 && (n == 24 || n == 32);
      if (toldRule != 2 && toldRule != 3 || n * 3 != tape.size() || n != 16 && !longer) {
        return false;
      }
      rule = toldRule;
      length = n;
      enc.copyPart(tape, 0, n);
      mac.copyPart(tape, n, 2 * n);
      seal.copyPart(tape, 2 * n, 3 * n);
      return true;
    }
  }

  /** One side's session: its keys and proofs, and how far its codes have come. */
  private static final class Session {
    private int state = NO_SESSION;
    private int level = 0;
    private final Row enc = new Row(KEY_MOST);
    private final Row mac = new Row(KEY_MOST);
    private final Row back = new Row(KEY_MOST);
    private final Row seal = new Row(KEY_MOST);
    private final Row holderProof = new Row(CODE);
    private final Row callerProof = new Row(CODE);
    private final Row challenge = new Row(CODE);
    private final Row chain = new Row(16);
    private final Row backChain = new Row(CODE);
    /** The command sent or taken latest, plain. */
    private final Row command = new Row(HEAD + DATA_MOST);
    /** 0 for the proving command, then one more for each. */
    private int count = 0;
    private boolean commanded = false;

    void begin() {
      state = BEGUN;
      level = 0;
      count = 0;
      commanded = false;
      chain.clear();
      chain.addZeros(16);
    }

    /** Behind the proving command, whose code the chain has. */
    void open(int withLevel) {
      state = OPEN;
      level = withLevel;
      backChain.copyPart(chain, 0, CODE);
    }

    void finish() {
      state = NO_SESSION;
      level = 0;
    }

    boolean isOpenWith(int levelBit) {
      return state == OPEN && (level & levelBit) != 0;
    }

    boolean isAnswerable() {
      return isOpenWith(LEVEL_BACK_CODES) && commanded;
    }

    Row secretRow(int which) {
      switch (which) {
        case 0: return enc;
        case 1: return mac;
        case 2: return back;
        case 3: return seal;
        case 4: return holderProof;
        case 5: return callerProof;
        case 6: return challenge;
        default: return null;
      }
    }
  }

  /** What the older and the newer rule do each in its way. */
  private abstract static class Rule {
    private static final int TEXT_MOST = 528;

    /** What the codes are reckoned of. */
    final Row text = new Row(TEXT_MOST);
    /** The data of a command or of an answer, on its way to or from the line. */
    final Row data = new Row(LINE_MOST);
    final Row code = new Row(16);
    final Row iv = new Row(16);
    final Row zeros = new Row(16);

    Rule() {
      zeros.addZeros(16);
    }

    abstract int width();

    abstract boolean hidesAnswers();

    abstract void makeChallenge(Keys keys, Session s, int n, Row name);

    /** Keys and proofs, by the challenge that the session has. */
    abstract void makeSession(Keys keys, Session s, long h, int n);

    abstract void secure(Session s, Row line);

    /** The line's command, plain, in the session; false if it is not as secured. */
    abstract boolean openSecured(Session s, Row line);

    abstract void secureAnswer(Session s, Row answer, int sw, Row line);

    abstract boolean openAnswer(Session s, Row line, int sw, Row plain);

    /** Whole blocks there or back by a key. */
    abstract void sealWith(Row key, Row blocks, boolean back);

    final boolean hasLevel(int level) {
      return level == 0 || level == 1 || level == 3 || level == 0x11 || level == 0x13
          || level == 0x33 && hidesAnswers();
    }

    final boolean isBlocks(int count) {
      return (count & (width() - 1)) == 0;
    }

    final boolean hides(Session s, int levelBit) {
      return (s.level & levelBit) != 0 && data.size() > 0;
    }

    /** The head as codes have it, with the length of the data and the code. */
    final void addHead(Row command, int dataLength) {
      text.add(command.at(0) & ~CHANNEL_BITS | SECURED_BIT);
      text.addPart(command, 1, HEAD);
      text.add(dataLength + CODE);
    }

    final void putCommand(Row command, Row chain, Row line) {
      line.clear();
      line.add(command.at(0) | SECURED_BIT);
      line.addPart(command, 1, HEAD);
      line.addAll(data);
      line.addPart(chain, 0, CODE);
    }

    /** The line's data into data; false if no secured command can be there. */
    final boolean splitCommand(Row line) {
      data.copyPart(line, HEAD, line.size() - CODE);
      return line.size() >= HEAD + CODE && (line.at(0) & SECURED_BIT) != 0;
    }

    /** The command of the line's head and the plain data; false if it is too long. */
    final boolean joinCommand(Row line, Row command) {
      command.clear();
      command.add(line.at(0) & ~SECURED_BIT);
      command.addPart(line, 1, HEAD);
      command.addAll(data);
      return data.size() <= DATA_MOST;
    }

    final void putAnswer(Row line) {
      line.copy(data);
      line.addPart(code, 0, CODE);
    }

    final boolean splitAnswer(Row line) {
      data.copyPart(line, 0, line.size() - CODE);
      return line.size() >= CODE;
    }
  }

  /** RULE 2, by DES. */
  private static final class OlderRule extends Rule {
    private final Des des = new Des();

    int width() {
      return 8;
    }

    boolean hidesAnswers() {
      return false;
    }

    void makeChallenge(Keys keys, Session s, int n, Row name) {
      sessionKey(keys.mac, 0x0101, n, s.mac);
      text.copy(name);
      retail(s.mac, zeros, s.challenge);
      s.challenge.shorten(6);
    }

    void makeSession(Keys keys, Session s, long h, int n) {
      sessionKey(keys.enc, 0x0182, n, s.enc);
      sessionKey(keys.mac, 0x0101, n, s.mac);
      sessionKey(keys.mac, 0x0102, n, s.back);
      sessionKey(keys.seal, 0x0181, n, s.seal);
      text.clear();
      text.addNumber(h, 8);
      text.addNumber(n, 2);
      text.addAll(s.challenge);
      mac3(s.enc, s.holderProof);
      text.clear();
      text.addNumber(n, 2);
      text.addAll(s.challenge);
      text.addNumber(h, 8);
      mac3(s.enc, s.callerProof);
    }

    void secure(Session s, Row line) {
      chainCommand(s);
      data.copyPart(s.command, HEAD, s.command.size());
      if (hides(s, LEVEL_HIDDEN)) {
        data.pad(8);
        des.setTriple(s.enc);
        des.startFrom(zeros);
        des.chainThere(data, 0, data.size());
      }
      putCommand(s.command, s.chain, line);
    }

    boolean openSecured(Session s, Row line) {
      if (!splitCommand(line) || hides(s, LEVEL_HIDDEN) && !show(s)) {
        return false;
      }
      if (!joinCommand(line, s.command)) {
        return false;
      }
      chainCommand(s);
      return line.endsWithCode(s.chain);
    }

    void secureAnswer(Session s, Row answer, int sw, Row line) {
      data.copy(answer);
      codeAnswer(s, sw);
      s.backChain.copy(code);
      putAnswer(line);
    }

    boolean openAnswer(Session s, Row line, int sw, Row plain) {
      if (!splitAnswer(line)) {
        return false;
      }
      codeAnswer(s, sw);
      if (!line.endsWithCode(code)) {
        return false;
      }
      s.backChain.copy(code);
      plain.copy(data);
      return true;
    }

    void sealWith(Row key, Row blocks, boolean back) {
      des.setTriple(key);
      for (int from = 0; from < blocks.size(); from += 8) {
        des.startFrom(zeros);
        if (back) {
          des.chainBack(blocks, from, from + 8);
        } else {
          des.chainThere(blocks, from, from + 8);
        }
      }
    }

    private void sessionKey(Row key, int constant, int n, Row result) {
      result.clear();
      result.addNumber(constant, 2);
      result.addNumber(n, 2);
      result.addZeros(12);
      des.setTriple(key);
      des.startFrom(zeros);
      des.chainThere(result, 0, result.size());
    }

    /** The chain becomes the MAC of the session's plain command. */
    private void chainCommand(Session s) {
      iv.copyPart(zeros, 0, 8);
      if (s.count > 0) {
        iv.copyPart(s.chain, 0, 8);
        des.setSingle(s.mac);
        des.startFrom(zeros);
        des.chainThere(iv, 0, 8);
      }
      text.clear();
      addHead(s.command, s.command.size() - HEAD);
      text.addPart(s.command, HEAD, s.command.size());
      retail(s.mac, iv, s.chain);
    }

    private boolean show(Session s) {
      if (!isBlocks(data.size())) {
        return false;
      }
      des.setTriple(s.enc);
      des.startFrom(zeros);
      des.chainBack(data, 0, data.size());
      return data.unpad();
    }

    /** The code becomes that of the answer's data, without telling the session. */
    private void codeAnswer(Session s, int sw) {
      text.clear();
      text.add(s.command.at(0) & ~(CHANNEL_BITS | SECURED_BIT));
      text.addPart(s.command, 1, HEAD);
      text.add(s.command.size() - HEAD);
      text.addPart(s.command, HEAD, s.command.size());
      text.add(data.size());
      text.addAll(data);
      text.addNumber(sw, 2);
      retail(s.back, s.backChain, code);
    }

    private void mac3(Row key, Row result) {
      text.pad(8);
      des.setTriple(key);
      des.startFrom(zeros);
      des.chainThere(text, 0, text.size());
      result.copyPart(text, text.size() - 8, text.size());
    }

    /** The last block goes back and there again behind DES: that is DES3 for it. */
    private void retail(Row key, Row from, Row result) {
      text.pad(8);
      int last = text.size() - 8;
      des.startFrom(from);
      des.setSingle(key);
      des.chainThere(text, 0, last);
      des.setTriple(key);
      des.chainThere(text, last, text.size());
      result.copyPart(text, last, text.size());
    }
  }

  /** RULE 3, by AES. */
  private static final class NewerRule extends Rule {
    private static final int ANSWER_MARK = 0x80;

    private final Aes aes = new Aes();
    /** What a CMAC turns its last block by. */
    private final int[] turn = new int[16];

    int width() {
      return 16;
    }

    boolean hidesAnswers() {
      return true;
    }

    void makeChallenge(Keys keys, Session s, int n, Row name) {
      data.clear();
      data.addNumber(n, 3);
      data.addAll(name);
      derive(keys.enc, 2, CODE, s.challenge);
    }

    void makeSession(Keys keys, Session s, long h, int n) {
      data.clear();
      data.addNumber(h, 8);
      data.addAll(s.challenge);
      derive(keys.enc, 4, keys.length, s.enc);
      derive(keys.mac, 6, keys.length, s.mac);
      derive(keys.mac, 7, keys.length, s.back);
      s.seal.copy(keys.seal);
      derive(s.mac, 0, CODE, s.holderProof);
      derive(s.mac, 1, CODE, s.callerProof);
    }

    void secure(Session s, Row line) {
      data.copyPart(s.command, HEAD, s.command.size());
      if (hides(s, LEVEL_HIDDEN)) {
        hide(s, 0);
      }
      chainCommand(s, s.command);
      putCommand(s.command, s.chain, line);
    }

    boolean openSecured(Session s, Row line) {
      if (!splitCommand(line)) {
        return false;
      }
      chainCommand(s, line);
      if (!line.endsWithCode(s.chain) || hides(s, LEVEL_HIDDEN) && !show(s, 0)) {
        return false;
      }
      return joinCommand(line, s.command);
    }

    void secureAnswer(Session s, Row answer, int sw, Row line) {
      data.copy(answer);
      if (hides(s, LEVEL_BACK_HIDDEN)) {
        hide(s, ANSWER_MARK);
      }
      codeAnswer(s, sw);
      putAnswer(line);
    }

    boolean openAnswer(Session s, Row line, int sw, Row plain) {
      if (!splitAnswer(line)) {
        return false;
      }
      codeAnswer(s, sw);
      if (!line.endsWithCode(code) || hides(s, LEVEL_BACK_HIDDEN) && !show(s, ANSWER_MARK)) {
        return false;
      }
      plain.copy(data);
      return true;
    }

    void sealWith(Row key, Row blocks, boolean back) {
      aes.setKey(key);
      aes.startFrom(zeros);
      if (back) {
        aes.chainBack(blocks, 0, blocks.size());
      } else {
        aes.chainThere(blocks, 0, blocks.size());
      }
    }

    private void chainCommand(Session s, Row command) {
      text.copy(s.chain);
      addHead(command, data.size());
      text.addAll(data);
      cmac(s.mac, s.chain);
    }

    private void codeAnswer(Session s, int sw) {
      text.copy(s.chain);
      text.addAll(data);
      text.addNumber(sw, 2);
      cmac(s.back, code);
    }

    private void hide(Session s, int mark) {
      data.pad(16);
      startFromCount(s, mark);
      aes.chainThere(data, 0, data.size());
    }

    private boolean show(Session s, int mark) {
      if (!isBlocks(data.size())) {
        return false;
      }
      startFromCount(s, mark);
      aes.chainBack(data, 0, data.size());
      return data.unpad();
    }

    private void startFromCount(Session s, int mark) {
      iv.clear();
      iv.add(mark);
      iv.addZeros(7);
      iv.addNumber(s.count, 8);
      aes.setKey(s.enc);
      aes.startFrom(zeros);
      aes.chainThere(iv, 0, 16);
      aes.startFrom(iv);
    }

    /** KDF of what data has. */
    private void derive(Row key, int constant, int length, Row result) {
      result.clear();
      for (int i = 1; 16 * (i - 1) < length; i++) {
        text.clear();
        text.addZeros(11);
        text.add(constant);
        text.add(0);
        text.addNumber(8 * length, 2);
        text.add(i);
        text.addAll(data);
        cmac(key, code);
        result.addPart(code, 0, length - 16 * (i - 1));
      }
    }

    /** CMAC of what text has, which it uses up. */
    private void cmac(Row key, Row result) {
      aes.setKey(key);
      result.copy(zeros);
      aes.startFrom(zeros);
      aes.chainThere(result, 0, 16);
      for (int i = 0; i < turn.length; i++) {
        turn[i] = result.at(i);
      }
      doubleTurn();
      if (text.size() == 0 || !isBlocks(text.size())) {
        doubleTurn();
        text.pad(16);
      }
      int last = text.size() - 16;
      for (int i = 0; i < turn.length; i++) {
        text.put(last + i, text.at(last + i) ^ turn[i]);
      }
      aes.startFrom(zeros);
      aes.chainThere(text, 0, text.size());
      result.copyPart(text, last, text.size());
    }

    private void doubleTurn() {
      int carry = 0;
      for (int i = turn.length - 1; i >= 0; i--) {
        int twice = turn[i] << 1 | carry;
        turn[i] = twice & 255;
        carry = twice >>> 8 & 1;
      }
      turn[turn.length - 1] ^= carry * 0x87;
    }
  }

  /** A cipher of blocks, and CBC with it; ECB is CBC of each block alone from 0s. */
  private abstract static class BlockCipher {
    /** The block in work. */
    final int[] block;
    private final int[] before;

    BlockCipher(int width) {
      block = new int[width < 1 ? 1 : width];
      before = new int[width < 1 ? 1 : width];
    }

    abstract void there();

    abstract void back();

    final void startFrom(Row iv) {
      for (int i = 0; i < before.length; i++) {
        before[i] = iv.at(i) & 255;
      }
    }

    /** Goes on from the block before; from and to are whole blocks of the row. */
    final void chainThere(Row row, int from, int to) {
      for (int start = from; start < to; start += block.length) {
        for (int i = 0; i < block.length && i < before.length; i++) {
          block[i] = (row.at(start + i) ^ before[i]) & 255;
        }
        there();
        for (int i = 0; i < block.length && i < before.length; i++) {
          row.put(start + i, block[i]);
          before[i] = block[i];
        }
      }
    }

    final void chainBack(Row row, int from, int to) {
      for (int start = from; start < to; start += block.length) {
        for (int i = 0; i < block.length; i++) {
          block[i] = row.at(start + i) & 255;
        }
        back();
        for (int i = 0; i < block.length && i < before.length; i++) {
          int hidden = row.at(start + i) & 255;
          row.put(start + i, block[i] ^ before[i]);
          before[i] = hidden;
        }
      }
    }
  }

  /** DES by the first eight bytes of a key, or DES3 by sixteen. */
  private static final class Des extends BlockCipher {
    private static final int ROUNDS = 16;
    private static final long HALF = 0xFFFFFFFFL;
    private static final int KEY_HALF = 0xFFFFFFF;

    /** The bits of a mask change places with those that stand so far above them. */
    private static final int[] SWAPS = {36, 48, 30, 24, 33};
    private static final long[] SWAP_MASKS = {
      0x0F0F0F0FL, 0x0000FFFFL, 0xCCCCCCCCL, 0xFF00FF00L, 0x55555555L};

    // The other tables are those of FIPS 46-3: bit 1 is the highest.
    private static final int[] CHOICE_1 = {
      57, 49, 41, 33, 25, 17, 9, 1, 58, 50, 42, 34, 26, 18,
      10, 2, 59, 51, 43, 35, 27, 19, 11, 3, 60, 52, 44, 36,
      63, 55, 47, 39, 31, 23, 15, 7, 62, 54, 46, 38, 30, 22,
      14, 6, 61, 53, 45, 37, 29, 21, 13, 5, 28, 20, 12, 4};
    private static final int[] CHOICE_2 = {
      14, 17, 11, 24, 1, 5, 3, 28, 15, 6, 21, 10,
      23, 19, 12, 4, 26, 8, 16, 7, 27, 20, 13, 2,
      41, 52, 31, 37, 47, 55, 30, 40, 51, 45, 33, 48,
      44, 49, 39, 56, 34, 53, 46, 42, 50, 36, 29, 32};
    private static final int[] SHIFTS = {1, 1, 2, 2, 2, 2, 2, 2, 1, 2, 2, 2, 2, 2, 2, 1};
    private static final int[] SPREAD = {
      16, 7, 20, 21, 29, 12, 28, 17, 1, 15, 23, 26, 5, 18, 31, 10,
      2, 8, 24, 14, 32, 27, 3, 9, 19, 13, 30, 6, 22, 11, 4, 25};
    private static final int[] BOXES = {
      14, 4, 13, 1, 2, 15, 11, 8, 3, 10, 6, 12, 5, 9, 0, 7,
      0, 15, 7, 4, 14, 2, 13, 1, 10, 6, 12, 11, 9, 5, 3, 8,
      4, 1, 14, 8, 13, 6, 2, 11, 15, 12, 9, 7, 3, 10, 5, 0,
      15, 12, 8, 2, 4, 9, 1, 7, 5, 11, 3, 14, 10, 0, 6, 13,
      15, 1, 8, 14, 6, 11, 3, 4, 9, 7, 2, 13, 12, 0, 5, 10,
      3, 13, 4, 7, 15, 2, 8, 14, 12, 0, 1, 10, 6, 9, 11, 5,
      0, 14, 7, 11, 10, 4, 13, 1, 5, 8, 12, 6, 9, 3, 2, 15,
      13, 8, 10, 1, 3, 15, 4, 2, 11, 6, 7, 12, 0, 5, 14, 9,
      10, 0, 9, 14, 6, 3, 15, 5, 1, 13, 12, 7, 11, 4, 2, 8,
      13, 7, 0, 9, 3, 4, 6, 10, 2, 8, 5, 14, 12, 11, 15, 1,
      13, 6, 4, 9, 8, 15, 3, 0, 11, 1, 2, 12, 5, 10, 14, 7,
      1, 10, 13, 0, 6, 9, 8, 7, 4, 15, 14, 3, 11, 5, 2, 12,
      7, 13, 14, 3, 0, 6, 9, 10, 1, 2, 8, 5, 11, 12, 4, 15,
      13, 8, 11, 5, 6, 15, 0, 3, 4, 7, 2, 12, 1, 10, 14, 9,
      10, 6, 9, 0, 12, 11, 7, 13, 15, 1, 3, 14, 5, 2, 8, 4,
      3, 15, 0, 6, 10, 1, 13, 8, 9, 4, 5, 11, 12, 7, 2, 14,
      2, 12, 4, 1, 7, 10, 11, 6, 8, 5, 3, 15, 13, 0, 14, 9,
      14, 11, 2, 12, 4, 7, 13, 1, 5, 0, 15, 10, 3, 9, 8, 6,
      4, 2, 1, 11, 10, 13, 7, 8, 15, 9, 12, 5, 6, 3, 0, 14,
      11, 8, 12, 7, 1, 14, 2, 13, 6, 15, 0, 9, 10, 4, 5, 3,
      12, 1, 10, 15, 9, 2, 6, 8, 0, 13, 3, 4, 14, 7, 5, 11,
      10, 15, 4, 2, 7, 12, 9, 5, 6, 1, 13, 14, 0, 11, 3, 8,
      9, 14, 15, 5, 2, 8, 12, 3, 7, 0, 4, 10, 1, 13, 11, 6,
      4, 3, 2, 12, 9, 5, 15, 10, 11, 14, 1, 7, 6, 0, 8, 13,
      4, 11, 2, 14, 15, 0, 8, 13, 3, 12, 9, 7, 5, 10, 6, 1,
      13, 0, 11, 7, 4, 9, 1, 10, 14, 3, 5, 12, 2, 15, 8, 6,
      1, 4, 11, 13, 12, 3, 7, 14, 10, 15, 6, 8, 0, 5, 9, 2,
      6, 11, 13, 8, 1, 4, 10, 7, 9, 5, 0, 15, 14, 2, 3, 12,
      13, 2, 8, 4, 6, 15, 11, 1, 10, 9, 3, 14, 5, 0, 12, 7,
      1, 15, 13, 8, 10, 3, 7, 4, 12, 5, 6, 11, 0, 14, 9, 2,
      7, 11, 4, 1, 9, 12, 14, 2, 0, 6, 10, 13, 15, 3, 5, 8,
      2, 1, 14, 7, 4, 10, 8, 13, 15, 12, 9, 0, 3, 5, 6, 11};

    /** For each box and six bits what they give, spread already: it saves a pass a round. */
    private final int[] spreadBoxes = new int[512];
    private final long[] first = new long[ROUNDS];
    private final long[] second = new long[ROUNDS];
    private boolean triple = false;

    Des() {
      super(8);
      for (int i = 0; i < SPREAD.length; i++) {
        int from = SPREAD[i] - 1;
        int box = from >>> 2;
        for (int six = 0; six < 64; six++) {
          int index = box << 6 | (six & 1) << 4 | (six & 0x20) | (six >>> 1 & 15);
          int bit = BOXES[index & 511] >>> (3 - (from & 3)) & 1;
          spreadBoxes[(box << 6 | six) & 511] |= bit << (31 - i);
        }
      }
    }

    void setSingle(Row key) {
      triple = false;
      schedule(key, 0, first);
    }

    void setTriple(Row key) {
      triple = true;
      schedule(key, 0, first);
      schedule(key, 8, second);
    }

    void there() {
      long x = rounds(reorder(load(), false), first, false);
      if (triple) {
        x = rounds(rounds(x, second, true), first, false);
      }
      store(reorder(x, true));
    }

    void back() {
      long x = rounds(reorder(load(), false), first, true);
      if (triple) {
        x = rounds(rounds(x, second, false), first, true);
      }
      store(reorder(x, true));
    }

    private long load() {
      long x = 0;
      for (int i = 0; i < block.length; i++) {
        x = x << 8 | block[i] & 255;
      }
      return x;
    }

    private void store(long x) {
      for (int i = 0; i < block.length; i++) {
        block[i] = (int) (x >>> (56 - 8 * i)) & 255;
      }
    }

    private static void schedule(Row key, int from, long[] subkeys) {
      long x = 0;
      for (int i = 0; i < 8; i++) {
        x = x << 8 | key.at(from + i) & 255;
      }
      long chosen = choose(x, 64, CHOICE_1);
      int high = (int) (chosen >>> 28) & KEY_HALF;
      int low = (int) chosen & KEY_HALF;
      for (int i = 0; i < SHIFTS.length && i < subkeys.length; i++) {
        int by = SHIFTS[i];
        high = (high << by | high >>> (28 - by)) & KEY_HALF;
        low = (low << by | low >>> (28 - by)) & KEY_HALF;
        subkeys[i] = choose((long) high << 28 | low, 56, CHOICE_2);
      }
    }

    private static long choose(long x, int width, int[] table) {
      long result = 0;
      for (int i = 0; i < table.length; i++) {
        result = result << 1 | x >>> (width - table[i]) & 1;
      }
      return result;
    }

    /** DES without its first and last permutation, which cancel between two passes. */
    private long rounds(long x, long[] subkeys, boolean back) {
      int left = (int) (x >>> 32);
      int right = (int) x;
      for (int i = 0; i < ROUNDS; i++) {
        long subkey = subkeys[(back ? ROUNDS - 1 - i : i) & 15];
        // The bits that go round stand at both ends, so that each box reads six in a row.
        long wide = (right & 1L) << 33 | (right & HALF) << 1 | right >>> 31;
        int next = left;
        for (int box = 0; box < 8; box++) {
          int six = (int) (wide >>> (28 - 4 * box) ^ subkey >>> (42 - 6 * box)) & 63;
          next ^= spreadBoxes[(box << 6 | six) & 511];
        }
        left = right;
        right = next;
      }
      return (right & HALF) << 32 | left & HALF;
    }

    /** The first permutation of FIPS 46-3 (last: the last one), as five swaps of bits. */
    private static long reorder(long x, boolean last) {
      long result = x;
      for (int i = 0; i < SWAPS.length; i++) {
        int swap = last ? SWAPS.length - 1 - i : i;
        int above = SWAPS[swap];
        long unlike = (result >>> above ^ result) & SWAP_MASKS[swap];
        result ^= unlike ^ unlike << above;
      }
      return result;
    }
  }

  /** AES by a key of 16, 24 or 32 bytes; a word is a column, its first byte the highest. */
  private static final class Aes extends BlockCipher {
    private static final int[] BOX = {
      0x63, 0x7c, 0x77, 0x7b, 0xf2, 0x6b, 0x6f, 0xc5, 0x30, 0x01, 0x67, 0x2b, 0xfe, 0xd7, 0xab, 0x76,
      0xca, 0x82, 0xc9, 0x7d, 0xfa, 0x59, 0x47, 0xf0, 0xad, 0xd4, 0xa2, 0xaf, 0x9c, 0xa4, 0x72, 0xc0,
      0xb7, 0xfd, 0x93, 0x26, 0x36, 0x3f, 0xf7, 0xcc, 0x34, 0xa5, 0xe5, 0xf1, 0x71, 0xd8, 0x31, 0x15,
      0x04, 0xc7, 0x23, 0xc3, 0x18, 0x96, 0x05, 0x9a, 0x07, 0x12, 0x80, 0xe2, 0xeb, 0x27, 0xb2, 0x75,
      0x09, 0x83, 0x2c, 0x1a, 0x1b, 0x6e, 0x5a, 0xa0, 0x52, 0x3b, 0xd6, 0xb3, 0x29, 0xe3, 0x2f, 0x84,
      0x53, 0xd1, 0x00, 0xed, 0x20, 0xfc, 0xb1, 0x5b, 0x6a, 0xcb, 0xbe, 0x39, 0x4a, 0x4c, 0x58, 0xcf,
      0xd0, 0xef, 0xaa, 0xfb, 0x43, 0x4d, 0x33, 0x85, 0x45, 0xf9, 0x02, 0x7f, 0x50, 0x3c, 0x9f, 0xa8,
      0x51, 0xa3, 0x40, 0x8f, 0x92, 0x9d, 0x38, 0xf5, 0xbc, 0xb6, 0xda, 0x21, 0x10, 0xff, 0xf3, 0xd2,
      0xcd, 0x0c, 0x13, 0xec, 0x5f, 0x97, 0x44, 0x17, 0xc4, 0xa7, 0x7e, 0x3d, 0x64, 0x5d, 0x19, 0x73,
      0x60, 0x81, 0x4f, 0xdc, 0x22, 0x2a, 0x90, 0x88, 0x46, 0xee, 0xb8, 0x14, 0xde, 0x5e, 0x0b, 0xdb,
      0xe0, 0x32, 0x3a, 0x0a, 0x49, 0x06, 0x24, 0x5c, 0xc2, 0xd3, 0xac, 0x62, 0x91, 0x95, 0xe4, 0x79,
      0xe7, 0xc8, 0x37, 0x6d, 0x8d, 0xd5, 0x4e, 0xa9, 0x6c, 0x56, 0xf4, 0xea, 0x65, 0x7a, 0xae, 0x08,
      0xba, 0x78, 0x25, 0x2e, 0x1c, 0xa6, 0xb4, 0xc6, 0xe8, 0xdd, 0x74, 0x1f, 0x4b, 0xbd, 0x8b, 0x8a,
      0x70, 0x3e, 0xb5, 0x66, 0x48, 0x03, 0xf6, 0x0e, 0x61, 0x35, 0x57, 0xb9, 0x86, 0xc1, 0x1d, 0x9e,
      0xe1, 0xf8, 0x98, 0x11, 0x69, 0xd9, 0x8e, 0x94, 0x9b, 0x1e, 0x87, 0xe9, 0xce, 0x55, 0x28, 0xdf,
      0x8c, 0xa1, 0x89, 0x0d, 0xbf, 0xe6, 0x42, 0x68, 0x41, 0x99, 0x2d, 0x0f, 0xb0, 0x54, 0xbb, 0x16};

    private final int[] boxBack = new int[256];
    /** The words of the key, four a round; 64 so that a mask keeps each index inside. */
    private final int[] words = new int[64];
    private final int[] state = new int[4];
    private final int[] boxed = new int[4];
    private int rounds = 10;

    Aes() {
      super(16);
      for (int i = 0; i < BOX.length; i++) {
        boxBack[BOX[i] & 255] = i;
      }
    }

    void setKey(Row key) {
      int n = key.size() / 4;
      if (n < 4 || n > 8) {
        return;
      }
      rounds = n + 6;
      for (int i = 0; i < n; i++) {
        words[i] = 0;
        for (int j = 0; j < 4; j++) {
          words[i] = words[i] << 8 | key.at(4 * i + j) & 255;
        }
      }
      int constant = 1;
      for (int i = n; i < 4 * (rounds + 1); i++) {
        int word = words[i - 1 & 63];
        if (i % n == 0) {
          word = boxWord(word << 8 | word >>> 24) ^ constant << 24;
          constant = constant << 1 ^ (constant >>> 7) * 0x11b;
        } else if (n > 6 && i % n == 4) {
          word = boxWord(word);
        }
        words[i & 63] = words[i - n & 63] ^ word;
      }
    }

    void there() {
      load();
      addWords(0);
      for (int round = 1; round <= rounds; round++) {
        boxShifted(BOX, 1);
        for (int i = 0; i < 4; i++) {
          state[i] = round < rounds ? mix(boxed[i]) : boxed[i];
        }
        addWords(round);
      }
      store();
    }

    void back() {
      load();
      addWords(rounds);
      for (int round = rounds - 1; round >= 0; round--) {
        boxShifted(boxBack, 3);
        for (int i = 0; i < 4; i++) {
          state[i] = boxed[i];
        }
        addWords(round);
        for (int i = 0; i < 4 && round > 0; i++) {
          state[i] = mix(beforeMix(state[i]));
        }
      }
      store();
    }

    private void load() {
      for (int i = 0; i < block.length; i++) {
        int column = i >>> 2 & 3;
        state[column] = state[column] << 8 | block[i] & 255;
      }
    }

    private void store() {
      for (int i = 0; i < block.length; i++) {
        block[i] = state[i >>> 2 & 3] >>> (24 - 8 * (i & 3)) & 255;
      }
    }

    private void addWords(int round) {
      for (int i = 0; i < 4; i++) {
        state[i] ^= words[4 * round + i & 63];
      }
    }

    /** Each row comes from as many columns on as it stands down, or back with a step of 3. */
    private void boxShifted(int[] box, int step) {
      for (int i = 0; i < 4; i++) {
        boxed[i] = box[state[i] >>> 24 & 255] << 24
            | box[state[i + step & 3] >>> 16 & 255] << 16
            | box[state[i + 2 & 3] >>> 8 & 255] << 8
            | box[state[i + 3 * step & 3] & 255];
      }
    }

    private static int boxWord(int word) {
      return BOX[word >>> 24 & 255] << 24 | BOX[word >>> 16 & 255] << 16
          | BOX[word >>> 8 & 255] << 8 | BOX[word & 255];
    }

    /** MixColumns: a row of each byte times 2, the next times 3, and the two others. */
    private static int mix(int column) {
      int two = (column & 0x7F7F7F7F) << 1 ^ (column >>> 7 & 0x01010101) * 0x1b;
      int three = two ^ column;
      return two ^ (three << 8 | three >>> 24)
          ^ (column << 16 | column >>> 16) ^ (column << 24 | column >>> 8);
    }

    /** What mix makes InvMixColumns of: each byte 5 times, and 4 times the one opposite. */
    private static int beforeMix(int column) {
      int sum = column ^ (column << 16 | column >>> 16);
      return column ^ (sum & 0x3F3F3F3F) << 2
          ^ (sum >>> 6 & 0x01010101) * 0x1b ^ (sum >>> 7 & 0x01010101) * 0x36;
    }
  }
}
