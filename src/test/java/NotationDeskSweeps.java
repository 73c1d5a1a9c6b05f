import java.util.NoSuchElementException;

/**
 * What holds for all bytes and all calls, over many of them: strict and packed bytes are the only ones of
 * their value; a call that refuses changes nothing; no call throws what the document does not name.
 */
public final class NotationDeskSweeps {
  private static final String[] TEXTS = {
    "A=b;", "A=n;", "A=i;", "A=i(-3,200);", "A=i(0,255);", "A=i(-300,300);", "A=o;", "A=o(1,1);", "A=o(0,2);",
    "A=q{b?,i(0,5)=2};", "A=lb;", "A=l(0,3)i(1,1);", "A=c{b,n,[1]i(0,1)};", "A=[1]b;", "A=[0!]lb;",
    "A=q{[0]c{b,n}?,[1!]q{b=1,i=0},lc{o(2,2),i(0,255)}};", "A=lq{i(0,3)=1,o(0,1)?};", "A=c{c{[9]b,n},[2!]q{},o};",
  };

  private static int wrong = 0;
  private static long seed = 20261115L;

  private static void complain(String what) {
    wrong++;
    if (wrong <= 50) {
      System.out.println(what);
    }
  }

  /** A fixed row of numbers, the same in each run. */
  private static int next(int bound) {
    seed = seed * 6364136223846793005L + 1442695040888963407L;
    return (int) ((seed >>> 33) % bound);
  }

  private static NotationDesk desk(String text) {
    NotationDesk d = new NotationDesk();
    for (char c : text.toCharArray()) {
      d.type(c);
    }
    if (d.compile() != 0) {
      complain("no module: " + text);
    }
    return d;
  }

  private static String bytes(NotationDesk d) {
    StringBuilder s = new StringBuilder();
    int count = d.at(-1);
    for (int i = 0; i < count; i++) {
      s.append(String.format("%02x ", d.at(i)));
    }
    return s.toString();
  }

  private static String value(NotationDesk d) {
    StringBuilder s = new StringBuilder();
    int count = d.parts();
    for (int k = 0; k < count; k++) {
      int kind = d.part(k, 0);
      int number = d.part(k, 1);
      s.append(kind).append(' ').append(number).append(' ');
      s.append(d.part(k, 2)).append(' ').append(d.part(k, 3)).append(' ');
      for (int i = 0; kind == 4 && i < number; i++) {
        s.append('.').append(d.octet(k, i));
      }
    }
    return s.toString();
  }

  private static void checkBytes(String text, byte[] row) {
    for (int from = 0; from <= 2; from++) {
      NotationDesk d = desk(text);
      for (byte b : row) {
        d.put(b, 1);
      }
      String before = bytes(d);
      String call = text + " " + before + "by " + from;
      int count = d.transcode('A', from, from == 0 ? 1 : from);
      if (count == -1) {
        if (!bytes(d).equals(before) || d.parts() != 0) {
          complain("no value's bytes changed something: " + call);
        }
        continue;
      }
      if (count != d.at(-1) || (from != 0 && !bytes(d).equals(before))) {
        complain("these are not the only bytes of a value: " + call + ": " + bytes(d));
      }
      checkCircle(d, call, from == 0 ? 1 : from);
    }
  }

  /** From one set of rules to the other and back there is the same value, in the same bytes. */
  private static void checkCircle(NotationDesk d, String call, int rules) {
    if (d.parts() > 16) {
      // To look at more of it, four times, would take more than an object's 512 calls.
      return;
    }
    String before = bytes(d);
    String value = value(d);
    d.transcode('A', rules, 3 - rules);
    if (!value(d).equals(value)) {
      complain("another value by the other rules: " + call);
    }
    d.transcode('A', 3 - rules, rules);
    if (!value(d).equals(value) || !bytes(d).equals(before)) {
      complain("another value, or other bytes, when back: " + call);
    }
    if (d.transcode('A', rules == 1 ? 0 : 2, rules) != d.at(-1) || !value(d).equals(value)) {
      complain("not read by the wider rules: " + call);
    }
  }

  private static void sweepShortBytes() {
    for (String text : TEXTS) {
      checkBytes(text, new byte[0]);
      for (int a = 0; a < 256; a++) {
        checkBytes(text, new byte[] {(byte) a});
        for (int b = 0; b < 256; b += 1 + next(9)) {
          checkBytes(text, new byte[] {(byte) a, (byte) b});
        }
      }
    }
  }

  private static void sweepLongBytes() {
    int[] likely = {0, 0, 1, 1, 2, 2, 3, 4, 5, 6, 48, 48, 128, 129, 130, 160, 161, 162, 169, 255};
    for (String text : TEXTS) {
      for (int n = 0; n < 1500; n++) {
        byte[] row = new byte[2 + next(14)];
        for (int i = 0; i < row.length; i++) {
          row[i] = (byte) (next(4) == 0 ? next(256) : likely[next(likely.length)]);
        }
        if (next(2) == 0) {
          row[0] = 48;
          row[1] = (byte) (next(2) == 0 ? 128 : row.length - 2);
        }
        checkBytes(text, row);
      }
    }
  }

  private static int someInt() {
    switch (next(8)) {
      case 0:
        return Integer.MIN_VALUE;
      case 1:
        return Integer.MAX_VALUE;
      case 2:
        return -1 - next(3);
      case 3:
        return next(130);
      default:
        return next(4);
    }
  }

  private static boolean isDue(RuntimeException e, int method) {
    Class<?> c = e.getClass();
    boolean isArgument = c == IllegalArgumentException.class;
    boolean isState = c == IllegalStateException.class;
    boolean isNone = c == NoSuchElementException.class;
    switch (method) {
      case 5:
        return c == IndexOutOfBoundsException.class;
      case 6:
        return isArgument || isState || isNone || c == UnsupportedOperationException.class;
      case 7:
        return isArgument || isNone;
      case 8:
        return isNone;
      case 9:
        return isArgument || isState || isNone;
      case 10:
        return isState;
      default:
        return false;
    }
  }

  private static void callSome(NotationDesk d, int method) {
    String letters = "ABbbionqlc{}[]!(),;==?-0123456789";
    switch (method) {
      case 0:
        d.type(letters.charAt(next(letters.length())));
        break;
      case 1:
        d.clear();
        break;
      case 2:
        d.compile();
        break;
      case 3:
        d.put(((long) next(Integer.MAX_VALUE) << 32) ^ next(Integer.MAX_VALUE), someInt());
        break;
      case 4:
        d.wipe();
        break;
      case 5:
        d.at(someInt());
        break;
      case 6:
        d.transcode((char) ('@' + next(4)), someInt(), someInt());
        break;
      case 7:
        d.part(someInt(), someInt());
        break;
      case 8:
        d.octet(someInt(), someInt());
        break;
      case 9:
        d.operation(someInt(), (char) ('@' + next(4)), someInt(), someInt());
        break;
      default:
        d.serve();
        break;
    }
  }

  private static void sweepCalls() {
    int[] often = {3, 4, 5, 6, 6, 6, 7, 7, 8, 9, 10, 3, 3, 2, 5, 8};
    for (int run = 0; run < 8000; run++) {
      NotationDesk d = run % 4 == 0 ? new NotationDesk() : desk(TEXTS[next(TEXTS.length)]);
      for (int n = 0; n < 80; n++) {
        int method = run % 4 == 0 ? next(11) : often[next(often.length)];
        int bytes = d.at(-1);
        int parts = d.parts();
        try {
          callSome(d, method);
        } catch (RuntimeException e) {
          if (!isDue(e, method)) {
            complain("method " + method + " threw " + e);
          }
          if (bytes != d.at(-1) || parts != d.parts()) {
            complain("method " + method + " threw and changed something");
          }
        }
      }
    }
  }

  private static void sweepTexts() {
    String letters = "bionqlc{}[]!(),;=?-0129ABCDZ";
    for (int run = 0; run < 20000; run++) {
      StringBuilder text = new StringBuilder(TEXTS[next(TEXTS.length)]);
      for (int n = next(3); n >= 0; n--) {
        int place = next(text.length() + 1);
        text.insert(place, letters.charAt(next(letters.length())));
        text.deleteCharAt(next(text.length()));
      }
      NotationDesk d = new NotationDesk();
      for (int i = 0; i < text.length(); i++) {
        d.type(text.charAt(i));
      }
      int fault = d.compile();
      if (fault != 0 && (fault % 16 < 1 || fault % 16 > 7 || fault / 16 > text.length())) {
        complain("no such fault: " + text + ": " + fault);
      }
      checkFaultIsFirst(text.toString(), fault);
    }
  }

  /** What stands behind the place of a fault cannot matter, but for the digits of one number. */
  private static void checkFaultIsFirst(String text, int fault) {
    int end = fault / 16 + 1;
    if (fault == 0 || end >= text.length() || Character.isDigit(text.charAt(end))) {
      return;
    }
    NotationDesk d = new NotationDesk();
    for (int i = 0; i < end; i++) {
      d.type(text.charAt(i));
    }
    int again = d.compile();
    if (again != fault) {
      complain("the fault of " + text + " is " + fault + ", but up to there " + again);
    }
  }

  public static void main(String[] args) {
    sweepShortBytes();
    sweepLongBytes();
    sweepCalls();
    sweepTexts();
    System.out.println(wrong == 0 ? "all sweeps are as due" : wrong + " answers are not as due");
    if (wrong != 0) {
      System.exit(1);
    }
  }
}
