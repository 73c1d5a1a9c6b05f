/**
 * The document's sentences that name a boundary case, in its order: each one has a method of its own, which
 * begins with the sentence's words. Calls are written as rows, "call arguments = answer that is due".
 */
public final class NotationDeskBoundaries {
  private static final int CALL_LIMIT = 512;
  private static final String STATE = "IllegalStateException";
  private static final String ARGUMENT = "IllegalArgumentException";
  private static final String NO_ELEMENT = "NoSuchElementException";
  private static final String NO_INDEX = "IndexOutOfBoundsException";
  private static final String TOO_LONG = "UnsupportedOperationException";

  /** An item of its list is three bytes by the strict rules, but four by the packed ones. */
  private static final String WIDE_WHEN_PACKED =
      "A=q{o,lc{c{c{i(0,65535),b,o,n,q{}},[0]b,[1]b,[2]b,[3]b},[4]b,[5]b,[6]b,[7]b}};";

  private static int wrong = 0;
  private static String words = "";

  private static void sentence(String itsWords) {
    words = itsWords;
  }

  private static void complain(String what) {
    wrong++;
    if (wrong <= 100) {
      System.out.println(words + "\n    .. " + what.substring(Math.max(0, what.length() - 600)));
    }
  }

  // ---- a desk that is spoken to in rows

  private static final class Desk {
    final NotationDesk desk = new NotationDesk();
    int calls = 0;
    String said = "";

    /** Rows without an answer are not looked at. */
    Desk say(String... rows) {
      for (String row : rows) {
        int at = row.lastIndexOf(" = ");
        String call = at < 0 ? row : row.substring(0, at);
        String got = ask(call);
        if (at >= 0 && !got.equals(row.substring(at + 3))) {
          complain(said.substring(2) + " answered " + got + ", due is " + row.substring(at + 3));
        }
      }
      return this;
    }

    String ask(String call) {
      said += "; " + call;
      return answer(call.split(" "));
    }

    Desk text(String text) {
      said += "; text " + text;
      for (int i = 0; i < text.length(); i++) {
        calls++;
        if (!desk.type(text.charAt(i))) {
          complain(said.substring(2) + ": character " + i + " was refused");
        }
      }
      return this;
    }

    /** The buffer becomes these bytes. */
    Desk bytes(String hex) {
      String digits = hex.replace(" ", "");
      say("wipe");
      for (int i = 0; i < digits.length(); i += 16) {
        String some = digits.substring(i, Math.min(i + 16, digits.length()));
        say("put " + Long.parseUnsignedLong(some, 16) + " " + some.length() / 2 + " = true");
      }
      return this;
    }

    private String answer(String[] row) {
      calls++;
      if (calls > CALL_LIMIT) {
        complain("the test itself makes too many calls");
      }
      try {
        return plainAnswer(row);
      } catch (RuntimeException e) {
        return e.getClass().getSimpleName();
      }
    }

    private String plainAnswer(String[] row) {
      switch (row[0]) {
        case "type":
          return String.valueOf(desk.type((char) number(row[1])));
        case "clear":
          return String.valueOf(desk.clear());
        case "compile":
          return String.valueOf(desk.compile());
        case "put":
          return String.valueOf(desk.put(Long.parseLong(row[1]), number(row[2])));
        case "wipe":
          return String.valueOf(desk.wipe());
        case "at":
          return String.valueOf(desk.at(number(row[1])));
        case "transcode":
          return String.valueOf(desk.transcode(row[1].charAt(0), number(row[2]), number(row[3])));
        case "parts":
          return String.valueOf(desk.parts());
        case "part":
          return String.valueOf(desk.part(number(row[1]), number(row[2])));
        case "octet":
          return String.valueOf(desk.octet(number(row[1]), number(row[2])));
        case "operation":
          desk.operation(number(row[1]), row[2].charAt(0), number(row[3]), number(row[4]));
          return "done";
        case "serve":
          return String.valueOf(desk.serve());
        case "buffer":
          return buffer();
        case "value":
          return value();
        default:
          throw new AssertionError(row[0]);
      }
    }

    private static int number(String s) {
      return s.equals("least") ? Integer.MIN_VALUE : s.equals("greatest") ? Integer.MAX_VALUE : Integer.parseInt(s);
    }

    /** All bytes of the buffer. */
    private String buffer() {
      StringBuilder s = new StringBuilder();
      int count = desk.at(-1);
      for (int i = 0; i < count; i++) {
        s.append(i == 0 ? "" : " ").append(String.format("%02x", desk.at(i)));
      }
      calls += count;
      return s.toString();
    }

    /** All parts: the kind, its number, which one it is, of what; and the bytes of an o. */
    private String value() {
      StringBuilder s = new StringBuilder();
      int count = desk.parts();
      for (int k = 0; k < count; k++) {
        int kind = desk.part(k, 0);
        int number = desk.part(k, 1);
        s.append(k == 0 ? "" : " ").append(kind).append('/').append(number);
        s.append('/').append(desk.part(k, 2)).append('/').append(desk.part(k, 3));
        for (int i = 0; kind == 4 && i < number; i++) {
          s.append(i == 0 ? ":" : ".").append(desk.octet(k, i));
          calls++;
        }
        calls += 4;
      }
      return s.toString();
    }
  }

  private static Desk module(String text) {
    return new Desk().text(text).say("compile = 0");
  }

  private static void fine(String... texts) {
    for (String text : texts) {
      module(text).say("transcode ? 0 1 = " + NO_ELEMENT);
    }
  }

  /** In each text a ^ stands in front of the fault's place. */
  private static void fault(int code, String... texts) {
    for (String text : texts) {
      int place = text.indexOf('^');
      Desk d = new Desk().text(text.substring(0, place) + text.substring(place + 1));
      d.say("compile = " + (code + 16 * place), "transcode A 0 1 = " + STATE);
    }
  }

  private static int count(String bytes) {
    return (bytes.length() + 1) / 3;
  }

  /** Bytes by some rules are those of a value of A, which by others has these ones. */
  private static void becomes(String text, int from, String bytes, int to, String others) {
    Desk d = module(text).bytes(bytes);
    d.say("transcode A " + from + " " + to + " = " + count(others), "buffer = " + others);
  }

  private static void none(String text, int from, String... rows) {
    for (String bytes : rows) {
      module(text).bytes(bytes).say("transcode A " + from + " 1 = -1", "buffer = " + bytes, "parts = 0");
    }
  }

  /** No value's by the open rules, and by their strict form. */
  private static void neither(String text, String... rows) {
    none(text, 0, rows);
    none(text, 1, rows);
  }

  /** Bytes that the open rules let pass for these strict ones; strictly read they are no value's. */
  private static void loose(String text, String strict, String... rows) {
    becomes(text, 1, strict, 1, strict);
    for (String bytes : rows) {
      becomes(text, 0, bytes, 1, strict);
      none(text, 1, bytes);
    }
  }

  /** Strict and packed bytes of one value: each is read by its rules, and written for the other. */
  private static void same(String text, String strict, String packed) {
    becomes(text, 0, strict, 1, strict);
    becomes(text, 1, strict, 2, packed);
    becomes(text, 2, packed, 1, strict);
    becomes(text, 2, packed, 2, packed);
  }

  private static void valueOf(String text, int from, String bytes, String parts) {
    module(text).bytes(bytes).say("transcode A " + from + " 1", "value = " + parts);
  }

  private static String times(int n, String s) {
    return s.repeat(n).trim();
  }

  // ---- what it is

  private static void calls512() {
    sentence("An object is used for at most 512 calls after it has been made");
    Desk text = new Desk();
    for (int i = 0; i < CALL_LIMIT - 1; i++) {
      text.say("type 65 = " + (i < 150));
    }
    text.say("clear = 150");

    Desk often = module("A=q{b?,i(0,3)=1,c{n,o}};").say("operation 0 A 0 2 = done");
    while (often.calls < CALL_LIMIT - 5) {
      often.say("compile = 0");
    }
    often.bytes("30 05 01 01 09 05 00").say("transcode A 0 2 = 1", "at 0 = 176", "parts = 5");
    if (often.calls != CALL_LIMIT) {
      complain("the test makes " + often.calls + " calls");
    }
  }

  // ---- the text

  private static void noBlanks() {
    sentence("THE TEXT has no blanks.");
    String text = "A=q{[0!]i(-1,9)=1,b?,lc{b,n}};";
    fine(text);
    for (int place = 0; place <= text.length(); place++) {
      for (String blank : new String[] {" ", "\t", "\n"}) {
        fault(1, text.substring(0, place) + "^" + blank + text.substring(place));
      }
    }
  }

  private static void oneOrMoreDefinitions() {
    sentence("A MODULE: one or more DEFINITIONS");
    fault(1, "^");
    fine("A=b;");
    StringBuilder all = new StringBuilder();
    for (char name = 'Z'; name >= 'A'; name--) {
      all.append(name).append("=b;");
    }
    Desk d = module(all.toString()).bytes("01 01 ff");
    for (char name = 'A'; name <= 'Z'; name++) {
      d.say("transcode " + name + " 0 1 = 3");
    }
  }

  private static void definitionsAreWhole() {
    sentence("a NAME (A .. Z), =, a TYPE, and ; behind it");
    fine("A=b;Z=b;");
    for (char c : new char[] {'@', '[', 'a', 'z', '0', '{', 'A' + 256, 0, 65535}) {
      fault(1, "^" + c + "=b;", "A=b;^" + c + "=b;", "A^" + c + "b;", "A=b^" + c);
    }
    fault(1, "^=b;", "^;", "A^B=b;", "A^;", "A=^=b;", "A=^;", "A=b^b;", "A=b^=", "A=b;^;", "A=b;B=b^,");
  }

  private static void tagsAreWhole() {
    sentence("TAGS, none or some, one behind the other, [ a digit ] (EXPLICIT) or [ a digit !] (IMPLICIT)");
    fine("A=[0]b;", "A=[9]b;", "A=[0!]b;", "A=[9!]b;", "A=[1][1][1!][1]b;");
    fault(1, "A=[^/]b;", "A=[^:]b;", "A=[^]b;", "A=[^!]b;", "A=[^-1]b;", "A=[1^0]b;", "A=[1^b;", "A=[1!^!]b;");
    fault(1, "A=[1!^1]b;", "A=[1]^;", "A=[1]^]b;", "A=[1]^!b;", "A=b^[1];", "A=[^A]b;");
  }

  private static void boundsWhereTheyCanBe() {
    sentence("b BOOLEAN, i INTEGER, perhaps with a RANGE, o OCTETS, perhaps with a SIZE, n NULL");
    fine("A=b;", "A=i;", "A=i(0,1);", "A=o;", "A=o(0,1);", "A=n;", "A=li(0,1);", "A=l(2,3)o(0,1);");
    fault(1, "A=b^(0,1);", "A=n^(0,0);", "A=q^(0,1){};", "A=q{}^(0,1);", "A=c^(0,1){b};", "A=c{b}^(0,1);");
    fault(1, "A=lb^(0,1);", "A=i;B=A^(0,1);", "A=i(0,1)^(0,1);", "A=^(0,1)i;");
  }

  private static void zeroToSixComponents() {
    sentence("q{..} SEQUENCE with 0 to 6 COMPONENTS, , between them");
    fine("A=q{};", "A=q{b};", "A=q{b,b};", "A=q{b,b,b,b,b,b};", "A=q{q{b,b,b,b,b,b},q{b,b,b,b,b,b}};");
    fault(7, "A=q{b,b,b,b,b,b^,b};");
    fault(1, "A=q^;", "A=q^};", "A=q{^,};", "A=q{^;", "A=q{b^b};", "A=q{b,^};", "A=q{b,^,b};", "A=q{b}^};");
  }

  private static void itemsBehindAList() {
    sentence("l LIST, perhaps with a SIZE, and with the type of its ITEMS behind it");
    fine("A=lb;", "A=l(0,1)b;", "A=ll(0,3)[1]q{};", "A=b;B=lA;");
    fault(1, "A=l^;", "A=l(0,1)^;", "A=q{l^};", "A=l^{b};", "A=lb^?;", "A=lb^,b;");
  }

  private static void oneToSixAlternatives() {
    sentence("c{..} CHOICE with 1 to 6 types, ALTERNATIVES, , between them");
    fine("A=c{b};", "A=c{b,i};", "A=c{b,i,o,n,q{},[0]b};");
    fault(1, "A=c{^};", "A=c^;", "A=c{b^i};", "A=c{b,^};", "A=c{^,b};", "A=c{b}^};");
    fault(7, "A=c{b,i,o,n,q{},[0]b^,[1]b};");
  }

  private static void namesStandForTypes() {
    sentence("or a NAME that was defined before: that type");
    same("B=i(3,5);C=B;A=C;", "02 01 05", "80");
    same("B=q{b,n};A=l(1,1)B;", "30 07 30 05 01 01 ff 05 00", "80");
    neither("B=i(3,5);C=B;A=C;", "02 01 06", "02 01 02");
  }

  private static void componentsEnd() {
    sentence("A COMPONENT: a type, and perhaps ? (OPTIONAL) or = and a NUMBER (DEFAULT).");
    fine("A=q{b,i};", "A=q{b?,i?};", "A=q{b=1,i=1};", "A=q{lb?,b};");
    fault(1, "A=q{b?^?};", "A=q{b?^=1};", "A=q{b=1^?};", "A=q{b=1^=1};", "A=q{^?};", "A=q{b=^};", "A=q{b=^?};");
    fault(1, "A=q{b=^b};", "A=c{b^?};", "A=c{b^=1};", "A=b^?;", "A=b^=1;", "A=q{b^!};");
  }

  private static void oneToFiveDigits() {
    sentence("A NUMBER: perhaps -, then 1 to 5 digits (a sixth one cannot be there, whatever the five tell; 007 "
        + "and -0 can).");
    fine("A=i(0,9);", "A=i(10000,12345);", "A=i(-99999,-99999);", "A=i(99999,99999);", "A=i(007,007);");
    fine("A=i(-0,-0);", "A=i(-00000,00000);", "A=o(-0,00020);", "A=q{b=-0,i=-00007,[0]b=00001};");
    fault(1, "A=i(^,1);", "A=i(-^,1);", "A=i(-^-1,1);", "A=i(^+1,1);", "A=i(1^-,1);", "A=i(^/,1);", "A=i(^:,1);");
    fault(1, "A=i(00000^0,1);", "A=i(-00000^0,1);", "A=i(0,00000^1);", "A=i(5,00000^4);", "A=o(0,99999^9);");
    fault(1, "A=q{i=00000^1};", "A=q{i=-12345^6};", "A=i(0,-^);", "A=i(0,1^.5);");
    valueOf("A=q{i=007,[0]i=-0,[1]i=-99999,[2]i=99999};", 0, "30 00",
        "6/4/0/-1 2/7/0/0 2/0/1/0 2/-99999/2/0 2/99999/3/0");
    same("A=i(007,010);", "02 01 0a", "c0");
    same("A=i(-99999,-99998);", "02 03 fe 79 62", "80");
    same("A=i(99998,99999);", "02 03 01 86 9f", "80");
  }

  private static void boundsInTheirOrder() {
    sentence("( a number , a number ): the lowest and the highest one, in this order");
    fine("A=i(5,5);", "A=i(5,6);", "A=i(-6,-5);", "A=i(-1,0);", "A=o(5,5);", "A=l(5,6)b;", "A=l(5,5)b;");
    fault(4, "A=i(6,5^);", "A=i(-5,-6^);", "A=i(0,-1^);", "A=o(6,5^);", "A=l(1,0^)b;");
    fault(1, "A=i(5^);", "A=i(5,^);", "A=i(5,6^,7);", "A=i(5,6^;", "A=i(^);", "A=i(5^;6);");
  }

  private static void rangeOf65536Numbers() {
    sentence("a range has at most 65536 numbers");
    fine("A=i(0,65535);", "A=i(-32768,32767);", "A=i(-99999,-34464);", "A=i(34464,99999);");
    fault(4, "A=i(0,65536^);", "A=i(-32768,32768^);", "A=i(-99999,-34463^);", "A=i(34463,99999^);");
    fault(4, "A=i(-99999,99999^);");
  }

  private static void sizeOfZeroToTwenty() {
    sentence("a size is 0 .. 20");
    fine("A=o(0,0);", "A=o(0,20);", "A=o(20,20);", "A=l(0,0)b;", "A=l(0,20)b;", "A=l(20,20)b;");
    fault(4, "A=o(-1,0^);", "A=o(0,21^);", "A=o(21,21^);", "A=o(-1,-1^);", "A=o(0,99999^);");
    fault(4, "A=l(-1,5^)b;", "A=l(0,21^)b;", "A=l(20,21^)b;", "A=l(-99999,20^)b;");
  }

  private static void implicitReplacesTheOutermostTag() {
    sentence("An implicit tag replaces the outermost tag of its type");
    same("A=[1!]b;", "81 01 ff", "80");
    same("A=[1!][2!]b;", "81 01 ff", "80");
    same("A=[1!][2]b;", "a1 03 01 01 ff", "80");
    same("A=[1][2!]b;", "a1 03 82 01 ff", "80");
    same("A=[1!][2!][3]b;", "a1 03 01 01 ff", "80");
    same("A=[1!][2][3!]b;", "a1 03 83 01 ff", "80");
    same("B=[2]b;A=[1!]B;", "a1 03 01 01 ff", "80");
    same("B=[2!]q{};A=[1!]B;", "a1 00", "00");
    neither("A=[1!]b;", "a1 01 ff", "01 01 ff", "81 03 01 01 ff", "a1 03 01 01 ff");
    neither("A=[1!][2]b;", "a1 05 a2 03 01 01 ff", "a2 03 01 01 ff", "81 01 ff");
  }

  private static void implicitTagOfAChoice() {
    sentence("but one of a CHOICE (without a tag; also by its NAME) is explicit");
    same("A=[1!]c{b,n};", "a1 03 01 01 ff", "40");
    same("B=c{b,n};A=[1!]B;", "a1 03 01 01 ff", "40");
    same("B=c{b,n};C=B;A=[1!]C;", "a1 02 05 00", "80");
    same("A=[1!]c{c{b,n},i};", "a1 02 05 00", "40");
    same("A=[1!][2!]c{b,n};", "a1 03 01 01 ff", "40");
    same("B=[2!]c{b,n};A=[1!]B;", "a1 03 01 01 ff", "40");
    same("B=[2]c{b,n};A=[1!]B;", "a1 03 01 01 ff", "40");
    same("A=[1!][2][3!]c{b,n};", "a1 05 a3 03 01 01 ff", "40");
    neither("A=[1!]c{b,n};", "81 01 ff", "81 00", "01 01 ff");
    neither("A=[1!][2!]c{b,n};", "a1 05 a2 03 01 01 ff", "a2 03 01 01 ff");
  }

  private static void tagsThatTypesBeginWith() {
    sentence("TAGS that a type begins with: those of b, i, o, n, q and l are 1, 2, 4, 5, 16; a tag with a digit is "
        + "100 + it; a choice begins with those of all its alternatives.");
    String[] types = {"b", "i", "o", "n", "q{}", "lb", "[0]b", "[0!]q{}", "[1]b", "[2!]i", "[8]o", "[9!]n"};
    int[] tags = {1, 2, 4, 5, 16, 16, 100, 100, 101, 102, 108, 109};
    for (int i = 0; i < types.length; i++) {
      for (int k = 0; k < types.length; k++) {
        boolean clash = tags[i] == tags[k];
        clashIf(clash, "A=c{" + types[i] + "," + types[k]);
        clashIf(clash, "A=q{" + types[i] + "?," + types[k]);
        clashIf(clash, "A=c{c{[5]b," + types[i] + "}," + types[k]);
        clashIf(clash, "A=q{" + types[i] + "?,c{[5]b," + types[k] + "}");
        clashIf(false, "A=c{[5]" + types[i] + "," + types[k]);
        clashIf(false, "A=c{" + types[i] + ",[6!]" + types[k]);
      }
    }
    clashIf(true, "A=c{c{b,i},c{o,c{n,i}}");
    clashIf(false, "A=c{[3]c{b,i},[4!]c{b,i},c{b,i}");
  }

  /** The text lacks the } at which two tags clash, and what stands behind it. */
  private static void clashIf(boolean clash, String text) {
    if (clash) {
      fault(6, text + "^};");
    } else {
      fine(text + "};");
    }
  }

  // ---- faults

  private static void firstFault() {
    sentence("FAULTS, the first one, from left to right");
    fault(1, "A=^x;A=b;", "A=c{b,^x,b};", "A=q{b?,b^;");
    // What is around could go on with the wrong character; the x behind it is only a later fault.
    fault(1, "A=q{i(^,x};", "A=q{i(1^?,x};", "A=q{i(1,^,x};", "A=q{i(1,2^,x};", "A=q{q^,x};", "A=q{c^?,x};");
    fault(1, "A=q{q{b=1^?,x}};", "A=q{c{b^?,x};", "A=q{c{b^=1,x};", "A=q{b=^,x};", "A=q{b=-^,x};", "A=q{l^,x};");
    fault(2, "A=b;^A=C;", "A=b;^A=x;");
    fault(3, "A=^C;A=b;", "A=c{b,^B,b};");
    fault(4, "A=i(6,5^)x", "A=q{b=^2x", "A=q{b?,b=^5};", "A=i(6,5^)B");
    fault(5, "A=llllll^q{x", "A=q{b?,b,lllll^b};");
    fault(6, "A=c{b,b^}x", "A=q{c{b,b^},x};", "A=q{b?,n,c{b,b^}};", "A=c{b,b^}");
    fault(7, "A=q{b,b,b,b,b,b^,x", "A=q{b?,b,b,b,b,b^,b};", "A=c{b,b,b,b,b,b^,b};");
  }

  private static void placesOfFaults() {
    sentence("at its place (from 0 on; the end's is the text's length)");
    fault(1, "^x", "^");
    String text = "A=q{[0!]i(-1,9)=1,[1]b?,lc{b}};";
    for (int end = 0; end < text.length(); end++) {
      fault(1, text.substring(0, end) + "^");
    }
    String most = fullText().substring(0, 148);
    fine(most + "};");
    fault(1, most + ",o^", most + "}^", most + "}^}", most + "^;;", most + "^;");
  }

  /** A module of 150 characters. */
  private static String fullText() {
    StringBuilder s = new StringBuilder("A=b;");
    for (char name = 'B'; name <= 'M'; name++) {
      s.append(name).append("=q{b?,i?};");
    }
    return s.append("Z=q{b?,i?,n?};").toString();
  }

  private static void fault1() {
    sentence("1 a character that cannot be there, or the end of the text where one has to be.");
    String text = "A=q{[0!]i(1,9)=1,lc{b,n}?};";
    fine(text);
    for (int place = 0; place < text.length(); place++) {
      String before = text.substring(0, place) + "^";
      String behind = text.substring(place + 1);
      char twin = (char) (text.charAt(place) + 256);
      fault(1, before, before + "x" + behind, before + (char) 0 + behind, before + twin + behind);
    }
    fault(1, text + "^x", text + "B^");
  }

  private static void fault2() {
    sentence("2 a name that was defined before (at it, in front of =).");
    fault(2, "A=b;^A=b;", "A=b;B=n;^A=i;", "A=b;B=A;^B=i;", "Z=b;^Z=n;");
    fine("A=b;B=A;C=A;");
    // What was compiled earlier is no part of this text.
    module("A=b;").say("compile = 0", "clear = 4").text("A=n;").say("compile = 0");
  }

  private static void fault3() {
    sentence("3 a name that was not defined (in a type; a definition begins to be there behind its ;).");
    fault(3, "A=^A;", "A=^B;B=b;", "A=l^A;", "A=q{b,^A?};", "A=c{^A};", "A=[1]^A;", "A=b;B=^Z;", "A=q{i=1,^Z};");
    fine("A=b;B=A;", "A=b;B=q{A,lA};");
    module("B=b;").say("clear = 4").text("A=B;").say("compile = 35");
  }

  private static void fault4OfBounds() {
    sentence("4 a range or size that is not as said: at its ).");
    fine("A=i(0,1);", "A=o(0,20);", "A=l(0,20)b;");
    fault(4, "A=i(1,0^);", "A=i(1,0^)", "A=i(00001,00000^);", "A=i(0,65536^);", "A=o(0,21^);", "A=q{l(-1,20^)b};");
    fault(1, "A=i(1,0^;", "A=i(1,0^", "A=o(0,21^b");
  }

  private static void fault4OfADefault() {
    sentence("A DEFAULT of a type that is not, seen through names and tags, BOOLEAN (0, 1) or INTEGER (in its "
        + "range): at the last digit");
    fine("A=q{b=0,[0]b=1};", "A=q{i=0,[0]i=99999,[1]i=-99999};", "A=q{i(-2,3)=-2,[0]i(-2,3)=3};");
    fault(4, "A=q{b=^2};", "A=q{b=-^1};", "A=q{b=1^0};", "A=q{b=0000^2};");
    fault(4, "A=q{i(-2,3)=^4};", "A=q{i(-2,3)=-^3};", "A=q{i(-2,3)=9999^9};", "A=q{i(7,7)=^6};", "A=q{i(7,7)=^8};");
    fine("A=q{i(65535,65536)=65536};", "A=q{i(7,7)=7};");
    fault(4, "A=q{i(65535,65536)=6553^7};");
    for (String type : new String[] {"o", "n", "q{}", "lb", "li", "c{b}", "c{i}", "[1]o", "[1!]c{b}"}) {
      fault(4, "A=q{" + type + "=^0};", "A=q{" + type + "=-^1", "B=" + type + ";A=q{B=1^1");
    }
    fine("B=[1!]b;A=q{[2]B=1};", "B=i(3,4);C=B;A=q{[1][2!]C=3};", "A=q{[1][2][3][4]b=1};");
    fault(4, "B=[1!]b;A=q{[2]B=^2};", "B=i(3,4);C=B;A=q{[1][2!]C=^5};", "A=q{[1][2][3][4]b=000^2};");
    // Without a digit there is no number yet.
    fault(1, "A=q{o=^};", "A=q{o=-^};");
  }

  private static void sixthDigitOfADefault() {
    sentence("(of five; a sixth one is a fault 1 there, ahead of that)");
    fault(4, "A=q{o=1234^5};", "A=q{b=0000^2};", "A=q{b=-0000^2};", "A=q{i(0,9)=1000^0};");
    fault(1, "A=q{o=12345^6};", "A=q{b=00002^0};", "A=q{b=-00002^0};", "A=q{i(0,9)=10000^0};", "A=q{o=12345^6");
  }

  private static void fault5() {
    sentence("5 the letter of a type inside of six others (q, l, c count, and tags, for what they are in front of");
    for (String leaf : new String[] {"b", "i(0,1)", "o", "n", "q{}"}) {
      fine("A=lllll" + leaf + ";", "A=[1][2!][3][4][5]" + leaf + ";", "A=q{q{q{q{q{" + leaf + "}}}}};");
      fine("A=c{c{c{c{c{" + leaf + "}}}}};", "A=[1]lq{c{[2!]" + leaf + "}};");
      fault(5, "A=llllll^" + leaf + ";", "A=[1][2!][3][4][5][6]^" + leaf + ";", "A=q{q{q{q{q{q{^" + leaf);
      fault(5, "A=c{c{c{c{c{c{^" + leaf, "A=[1]lq{c{[2!]l^" + leaf, "A=[1]lq{c{[2!][3!]^" + leaf);
    }
    fault(5, "A=llllll^lb;", "A=llllll^c{b};", "A=llllll^q{b};", "A=q{b,lllll^b};", "A=c{b,llll[1]^n};");
    // A tag is no letter of a type: what it is in front of is at fault.
    fault(5, "A=llllll[1]^b;", "A=[1][2][3][4][5][6][7][8][9]^b;");
    fault(1, "A=llllll[1^", "A=llllll^x;", "A=llllll[^b");
    // What stands beside a type is not around it.
    fine("A=q{lllb,[1]lllb,c{c{c{b}}}};", "A=q{b,b,b,b,b,b};", "A=q{llllb,b,llllb};");
  }

  private static void deepestTypes() {
    sentence("a type inside of six others");
    same("A=[1!][2!][3!][4!][5!]b;", "81 01 ff", "80");
    same("A=[1][2][3][4][5]b;", "a1 0b a2 09 a3 07 a4 05 a5 03 01 01 ff", "80");
    same("A=lllllb;", "30 0b 30 09 30 07 30 05 30 03 01 01 ff", "01 01 01 01 01 80");
    same("A=q{q{q{q{q{b}}}}};", "30 0b 30 09 30 07 30 05 30 03 01 01 ff", "80");
    same("A=c{c{c{c{c{b}}}}};", "01 01 ff", "80");
    same("B=b;C=lB;D=q{C};E=[1!]D;F=c{E};A=[2]F;", "a2 07 a1 05 30 03 01 01 ff", "01 80");
    valueOf("A=c{c{c{c{c{b}}}}};", 0, "01 01 ff", "9/0/0/-1 9/0/0/0 9/0/0/1 9/0/0/2 9/0/0/3 1/1/0/4");
  }

  private static void fault5AtAName() {
    sentence("a name's type has what is inside of it, and is at fault at the name if this goes too deep");
    fine("A=b;B=lllllA;", "A=q{};B=lllllA;", "A=lb;B=llllA;", "A=[1]b;B=llllA;", "A=q{b};B=llllA;", "A=c{b};B=llllA;");
    fault(5, "A=b;B=llllll^A;", "A=q{};B=llllll^A;", "A=lb;B=lllll^A;", "A=[1]b;B=lllll^A;", "A=q{b};B=lllll^A;");
    fault(5, "A=c{b};B=lllll^A;", "A=b;B=[1][2][3][4][5][6]^A;");
    fine("A=lllllb;B=A;C=B;");
    fault(5, "A=lllllb;B=l^A;", "A=lllllb;B=[1]^A;", "A=lllllb;B=q{^A};", "A=lllllb;B=c{n,^A};");
    fine("A=lb;B=lA;C=lB;D=lC;E=lD;");
    fault(5, "A=lb;B=lA;C=lB;D=lC;E=lD;F=l^E;", "A=[1]lb;B=[2]A;C=q{B};D=l[3]^C;");
    // It is the deepest one in it that counts.
    fine("A=q{b,lb,n};B=lllA;", "A=c{b,[1][2]b,n};B=llA;");
    fault(5, "A=q{b,lb,n};B=llll^A;", "A=c{b,[1][2]b,n};B=lll^A;", "A=q{lb,llb,n};B=lll^A;");
  }

  private static void fault6OfAChoice() {
    sentence("6 at a }: two alternatives of the choice begin with the same tag");
    fault(6, "A=c{b,b^};", "A=c{b,i,b^};", "A=c{b,i,o,n,lb,i^};", "A=c{q{},lb^};", "A=c{b,c{i,b}^};");
    fault(6, "A=c{c{i,b},b^};", "A=c{b,i};B=c{[0]b,A,i^};", "A=q{c{b,b^}};", "A=c{[1]b,[1!]c{b}^};");
    fine("A=c{b,i,o,n,lb,[0]b};", "A=c{b,i};B=c{[0]b,[1!]A,i};", "A=c{q{b},[1]q{b}};");
  }

  private static void fault6OfASequence() {
    sentence("or in a sequence a component begins with a tag with which one before it begins that is OPTIONAL or "
        + "has a DEFAULT, if all between them are so, too.");
    fault(6, "A=q{b?,b^};", "A=q{b=1,b^};", "A=q{b?,b?^};", "A=q{b=1,b=1^};", "A=q{n,b?,b^};", "A=q{b?,b,n^};");
    fault(6, "A=q{b?,i?,b^};", "A=q{b=0,i=1,b^};", "A=q{b?,i?,o?,n?,lb?,b^};", "A=q{n,b?,i=1,b,n^};");
    fault(6, "A=q{c{b,i}?,o?,i^};", "A=q{i?,o?,c{b,i}^};", "A=q{q{}?,lb^};");
    fine("A=q{b,b};", "A=q{b,b?};", "A=q{b?,i,b};", "A=q{b=0,i,b?};", "A=q{b?,i?,o,b,i};", "A=q{b?,i,o?,b};");
    fine("A=q{b?,i?,o?,n?,lb?,[0]b?};", "A=q{b,b=1,n,b?};", "A=q{c{b,i}?,o,i};");
  }

  private static void fault7() {
    sentence("7 a seventh component or alternative, at the , before it.");
    fault(7, "A=q{b,b,b,b,b,b^,b};", "A=c{b,i,o,n,lb,[0]b^,[1]b};", "A=q{n,q{b?,i=1,b,b,b,b?^,b}};");
    fine("A=q{b,b,b,b,b,b};", "A=c{b,i,o,n,lb,[0]b};", "A=q{q{b,b,b,b,b,b},b,b,b,b,b};");
  }

  // ---- values and their parts

  private static void hundredParts() {
    sentence("VALUES have PARTS, at most 100 (bytes of what would have more are no value's)");
    Desk most = module("A=ln;").bytes("63").say("transcode A 2 2 = 1", "parts = 100");
    most.say("part 99 2 = 98", "part 100 0 = " + NO_ELEMENT);
    none("A=ln;", 2, "64", "65", "7f");
    becomes("A=l(11,11)q{n,n,n,n,n,q{n,n}};", 2, "00", 2, "00");
    none("A=q{l(11,11)q{n,n,n,n,n,q{n,n}}};", 2, "00");
    none("A=l(20,20)l(20,20)l(20,20)l(20,20)l(20,20)n;", 2, "00");
    // 33 items of three parts, of which there are no bytes for two; another sequence around is the 101st part.
    String items = times(33, "30 00 ");
    module("A=lq{b=0,i=1};").bytes("30 42 " + items).say("transcode A 1 2 = 10", "parts = 100", "transcode A 2 1 = 68");
    neither("A=q{lq{b=0,i=1}};", "30 44 30 42 " + items);
    none("A=q{lq{b=0,i=1}};", 2, "21" + " 00".repeat(9));
  }

  /** 98 parts, an n, and a last one: this is the hundredth, or behind another n the one too many. */
  private static void lastPartOfEachKind() {
    sentence("one for each b, i, o, n, q, l, c in them");
    String[][] rows = {
      {"b", "01 01 ff", " 80"}, {"i", "02 01 05", " 01 05"}, {"o", "04 00", " 00"}, {"n", "05 00", ""},
      {"q{}", "30 00", ""}, {"lb", "30 00", " 00"}, {"[1]b", "a1 03 01 01 ff", " 80"},
    };
    String items = "30 40 " + times(32, "30 00 ");
    for (String[] row : rows) {
      String strict = items + " 05 00 " + row[1];
      same("A=q{lq{b=0,i=1},n," + row[0] + "};", element("30", strict), "20" + " 00".repeat(8) + row[2]);
      neither("A=q{lq{b=0,i=1},n,n," + row[0] + "};", element("30", items + " 05 00 05 00 " + row[1]));
      none("A=q{lq{b=0,i=1},n,n," + row[0] + "};", 2, "20" + " 00".repeat(8) + row[2]);
    }
    same("A=q{lq{b=0,i=1},c{n}};", element("30", items + " 05 00"), "20" + " 00".repeat(8));
    neither("A=q{lq{b=0,i=1},n,c{n}};", element("30", items + " 05 00 05 00"));
    none("A=q{lq{b=0,i=1},n,c{n}};", 2, "20" + " 00".repeat(8));
    same("A=q{lq{b=0,i=1},n,b=1};", element("30", items + " 05 00"), "00 20" + " 00".repeat(8));
    neither("A=q{lq{b=0,i=1},n,n,b=1};", element("30", items + " 05 00 05 00"));
    none("A=q{lq{b=0,i=1},n,n,b=1};", 2, "00 20" + " 00".repeat(8));
    same("A=q{lq{b=0,i=1},n,n,b?};", element("30", items + " 05 00 05 00"), "00 20" + " 00".repeat(8));
  }

  private static String element(String tag, String content) {
    return tag + String.format(" %02x ", count(content)) + content;
  }

  private static void defaultsAreAlwaysThere() {
    sentence("A component with a DEFAULT always is there, with it if nothing else was said.");
    String text = "A=q{b=1,[0!]i(-2,5)=-2,n?};";
    valueOf(text, 0, "30 00", "6/2/0/-1 1/1/0/0 2/-2/1/0");
    valueOf(text, 1, "30 00", "6/2/0/-1 1/1/0/0 2/-2/1/0");
    valueOf(text, 2, "00", "6/2/0/-1 1/1/0/0 2/-2/1/0");
    valueOf(text, 0, "30 06 01 01 07 80 01 fe", "6/2/0/-1 1/1/0/0 2/-2/1/0");
    valueOf(text, 0, "30 03 01 01 00", "6/2/0/-1 1/0/0/0 2/-2/1/0");
    valueOf(text, 1, "30 05 80 01 05 05 00", "6/3/0/-1 1/1/0/0 2/5/1/0 5/0/2/0");
    valueOf(text, 2, "5c", "6/2/0/-1 1/1/0/0 2/5/1/0");
  }

  // ---- the open rules, and their strict form

  private static void tagBytes() {
    sentence("Tag bytes: b 1, i 2, o 4, n 5; q and l 48");
    onlyFirstByte("A=b;", 1, "01 ff");
    onlyFirstByte("A=i;", 2, "01 05");
    onlyFirstByte("A=o;", 4, "02 aa bb");
    onlyFirstByte("A=n;", 5, "00");
    onlyFirstByte("A=q{b?};", 48, "00");
    onlyFirstByte("A=q{b};", 48, "03 01 01 ff");
    onlyFirstByte("A=lb;", 48, "03 01 01 ff");
  }

  /** Of all bytes just one is the first one of a value. */
  private static void onlyFirstByte(String text, int due, String rest) {
    for (int half = 0; half < 256; half += 128) {
      Desk d = module(text);
      for (int b = half; b < half + 128; b++) {
        String bytes = String.format("%02x ", b) + rest;
        d.bytes(bytes).say("transcode A " + b % 2 + " 1 = " + (b == due ? count(bytes) : -1));
      }
    }
  }

  private static void explicitTagBytes() {
    sentence("an explicit tag 160 + the digit, its content being just the element of its type");
    for (int digit = 0; digit <= 9; digit++) {
      same("A=[" + digit + "]b;", String.format("a%d 03 01 01 ff", digit), "80");
    }
    onlyFirstByte("A=[0]b;", 160, "03 01 01 ff");
    onlyFirstByte("A=[9]lb;", 169, "02 30 00");
    neither("A=[1]b;", "a1 00", "a1 06 01 01 ff 01 01 ff", "a1 04 01 01 ff 00", "a1 02 01 01 ff", "a1 03 02 01 05");
    neither("A=[1]b;", "a1 05 01 01 ff 00 00", "a1 03 01 01", "a1 01 ff", "a1 03 01 02 ff", "a1 03 01 00 ff");
    neither("A=q{[1]b,n};", "30 07 a1 05 01 01 ff 05 00", "30 07 a1 02 01 01 ff 05 00");
    neither("A=q{[1]b,[1!]b};", "30 03 81 01 ff", "30 05 a1 03 01 01 ff");
    neither("A=[1]lb;", "a1 05 30 00 01 01 ff", "a1 04 30 00 30 00", "a1 03 01 01 ff");
  }

  private static void implicitTagBytes() {
    sentence("an implicit one has the element of its type with another tag byte: 128 + the digit, or 160 + it "
        + "where the content is made of elements");
    for (int digit = 0; digit <= 9; digit++) {
      same("A=[" + digit + "!]b;", String.format("8%d 01 ff", digit), "80");
      same("A=[" + digit + "!]q{b};", String.format("a%d 03 01 01 ff", digit), "80");
    }
    same("A=[1!]i(4,5);", "81 01 05", "80");
    same("A=[1!]o(1,1);", "81 01 05", "05");
    same("A=[1!]n;", "81 00", "00");
    same("A=[1!]l(1,1)b;", "a1 03 01 01 ff", "80");
    same("A=[1!][2]b;", "a1 03 01 01 ff", "80");
    onlyFirstByte("A=[0!]b;", 128, "01 ff");
    onlyFirstByte("A=[9!]n;", 137, "00");
    onlyFirstByte("A=[0!]q{};", 160, "00");
    onlyFirstByte("A=[9!]lb;", 169, "00");
    onlyFirstByte("A=[5!][6]n;", 165, "02 05 00");
  }

  private static void oneAlternative() {
    sentence("A choice has the element of one alternative.");
    same("A=c{b,[1]q{},n};", "01 01 ff", "20");
    same("A=c{b,[1]q{},n};", "a1 02 30 00", "80");
    same("A=c{b,[1]q{},n};", "05 00", "40");
    neither("A=c{b,[1]q{},n};", "", "02 01 05", "01 01 ff 05 00", "05 00 05 00", "01 00", "81 00", "30 00", "00 00");
  }

  private static void lengthsOfOneByte() {
    sentence("Lengths: a byte 0 .. 127");
    for (int n : new int[] {0, 1, 2, 63, 64, 117, 118}) {
      String strict = String.format("04 %02x", n) + " 5a".repeat(n);
      becomes("A=o;", 0, strict, 1, strict);
      becomes("A=o;", 1, strict, 1, strict);
      neither("A=o;", String.format("04 %02x", n + 1) + " 5a".repeat(n));
    }
    neither("A=o;", "", "04", "04 00 5a", "04 01 5a 5a", "04 7f" + " 5a".repeat(118), "04 76" + " 5a".repeat(117));
    // The last of 120 bytes is the first one of an element, or of a length.
    for (String last : new String[] {"04", "04 81", "04 82", "04 82 00", "04 01"}) {
      int n = 116 - count(last);
      neither("A=lo;", String.format("30 76 04 %02x", n) + " 5a".repeat(n) + " " + last);
    }
    neither("A=lo;", "30 03 04 02 5a 5a", "30 04 04 01 5a 5a", "30 04 04 03 5a 5a 5a");
  }

  private static void longLengths() {
    sentence("129 and a byte; 130 and two (the higher one first)");
    loose("A=o;", "04 02 aa bb", "04 81 02 aa bb", "04 82 00 02 aa bb");
    loose("A=b;", "01 01 ff", "01 81 01 ff", "01 82 00 01 ff");
    loose("A=n;", "05 00", "05 81 00", "05 82 00 00");
    loose("A=q{b};", "30 03 01 01 ff", "30 81 03 01 01 ff", "30 82 00 03 01 01 ff", "30 82 00 05 01 82 00 01 ff");
    loose("A=[1]b;", "a1 03 01 01 ff", "a1 81 03 01 01 ff", "a1 82 00 03 01 01 ff");
    loose("A=[1!]lb;", "a1 03 01 01 ff", "a1 81 03 01 01 ff", "a1 82 00 03 01 01 ff");
    loose("A=o;", "04 75" + " 5a".repeat(117), "04 81 75" + " 5a".repeat(117));
    loose("A=o;", "04 74" + " 5a".repeat(116), "04 82 00 74" + " 5a".repeat(116));
    neither("A=o;", "04 81", "04 82", "04 82 00", "04 82 02", "04 81 01", "04 82 00 01", "04 82 02 00 aa bb");
    neither("A=o;", "04 81 03 aa bb", "04 81 01 aa bb", "04 82 00 03 aa bb", "04 82 00 01 aa bb", "04 82 01 02 aa bb");
    neither("A=o;", "04 83 00 00 02 aa bb", "04 84 00 00 00 02 aa bb", "04 ff 02 aa bb", "04 81 ff 00");
    neither("A=o;", "04 81 80" + " 00".repeat(117), "04 82 ff ff" + " 00".repeat(116));
    neither("A=o;", "04 82 01 00" + " 00".repeat(116));
  }

  private static void lengthOf128() {
    sentence("where content is made of elements also 128: then the bytes 0, 0 stand behind them");
    loose("A=q{};", "30 00", "30 80 00 00");
    loose("A=q{b};", "30 03 01 01 ff", "30 80 01 01 ff 00 00");
    loose("A=lb;", "30 03 01 01 ff", "30 80 01 01 ff 00 00");
    loose("A=[1]b;", "a1 03 01 01 ff", "a1 80 01 01 ff 00 00");
    loose("A=[1!]q{b};", "a1 03 01 01 ff", "a1 80 01 01 ff 00 00");
    loose("A=[1!]lb;", "a1 03 01 01 ff", "a1 80 01 01 ff 00 00");
    loose("A=[1!][2]b;", "a1 03 01 01 ff", "a1 80 01 01 ff 00 00");
    loose("A=[1!]c{b};", "a1 03 01 01 ff", "a1 80 01 01 ff 00 00");
    loose("A=lo;", "30 04 04 02 00 00", "30 80 04 02 00 00 00 00");
    loose("A=q{q{lb}};", "30 07 30 05 30 03 01 01 ff", "30 80 30 80 30 80 01 01 ff 00 00 00 00 00 00",
        "30 09 30 07 30 80 01 01 ff 00 00", "30 80 30 05 30 03 01 01 ff 00 00");
    neither("A=q{b};", "30 80", "30 80 01 01 ff", "30 80 01 01 ff 00", "30 80 01 01 ff 00 01", "30 80 01 01 ff 01 00");
    neither("A=q{b};", "30 80 01 01 ff 00 00 00", "30 80 00 00 01 01 ff", "30 05 01 01 ff 00 00", "30 80 00 00");
    neither("A=[1]b;", "a1 80 01 01 ff", "a1 80 01 01 ff 00 01", "a1 80 00 00", "a1 80 01 01 ff 01 01 ff 00 00");
    neither("A=lq{};", "30 02 30 80 00 00", "30 03 30 80 00 00", "30 80 30 80 00 00", "30 80 30 80 00 00 00");
    loose("A=q{o};", "30 74 04 72" + " 5a".repeat(114), "30 80 04 72" + " 5a".repeat(114) + " 00 00");
    neither("A=q{o};", "30 80 04 73" + " 5a".repeat(115) + " 00", "30 80 04 74" + " 5a".repeat(116));
    neither("A=b;", "01 80 ff 00 00", "01 80 00 00");
    neither("A=i;", "02 80 05 00 00");
    neither("A=o;", "04 80 00 00", "04 80 04 01 05 00 00");
    neither("A=n;", "05 80 00 00");
    neither("A=[1!]o;", "81 80 00 00", "81 80 05 00 00");
    neither("A=[1!]n;", "81 80 00 00");
  }

  private static void booleanContent() {
    sentence("CONTENT: b one byte (0: false).");
    for (int b = 0; b < 256; b++) {
      valueOf("A=b;", 0, String.format("01 01 %02x", b), "1/" + (b == 0 ? 0 : 1) + "/0/-1");
    }
    neither("A=b;", "01 00", "01 02 00 00", "01 02 ff ff", "01 01");
  }

  private static void integerContent() {
    sentence("i: 1 to 4 bytes, highest first, bit 7 of the first being the sign");
    String[][] rows = {
      {"00", "0"}, {"7f", "127"}, {"80", "-128"}, {"ff", "-1"}, {"00 80", "128"}, {"01 02", "258"}, {"7f ff", "32767"},
      {"80 00", "-32768"}, {"ff 7f", "-129"}, {"01 02 03", "66051"}, {"7f ff ff", "8388607"},
      {"80 00 00", "-8388608"}, {"01 02 03 04", "16909060"}, {"7f ff ff ff", "2147483647"},
      {"80 00 00 00", "-2147483648"},
    };
    for (String[] row : rows) {
      same("A=i;", element("02", row[0]), String.format("%02x ", count(row[0])) + row[0]);
      valueOf("A=i;", 1, element("02", row[0]), "2/" + row[1] + "/0/-1");
    }
    neither("A=i;", "02 00", "02 05 01 00 00 00 00", "02 05 00 80 00 00 00", "02 05 ff 7f ff ff ff", "02 02 01");
    neither("A=q{i,i};", "30 05 02 00 02 01 05", "30 06 02 04 01 02 03 04");
    none("A=i;", 2, "00", "05 01 00 00 00 00", "05 00 80 00 00 00", "02 01", "01");
    none("A=q{i,i};", 2, "00 01 05", "01 05 00", "01 05");
  }

  private static void nineBits() {
    sentence("and the first nine bits are not all equal (if there are two or more)");
    String[] shortest = {"00", "ff", "00 80", "ff 7f", "00 80 00", "ff 7f ff", "00 80 00 00", "ff 7f ff ff"};
    for (String bytes : shortest) {
      same("A=i;", element("02", bytes), String.format("%02x ", count(bytes)) + bytes);
    }
    String[] longer = {"00 00", "00 7f", "ff 80", "ff ff", "00 00 80", "00 7f ff", "ff 80 00", "ff ff 7f",
        "00 7f ff ff", "00 00 00 01", "ff 80 00 00", "ff ff ff ff"};
    for (String bytes : longer) {
      neither("A=i;", element("02", bytes));
      none("A=i;", 2, String.format("%02x ", count(bytes)) + bytes);
    }
  }

  private static void withinTheRange() {
    sentence("within the range");
    same("A=i(-5,5);", "02 01 fb", "00");
    same("A=i(-5,5);", "02 01 05", "a0");
    neither("A=i(-5,5);", "02 01 fa", "02 01 06", "02 02 01 00", "02 04 80 00 00 00", "02 04 7f ff ff ff");
    same("A=i(200,300);", "02 02 00 c8", "00");
    same("A=i(200,300);", "02 02 01 2c", "c8");
    neither("A=i(200,300);", "02 02 00 c7", "02 02 01 2d", "02 01 c8");
    neither("A=i(7,7);", "02 01 06", "02 01 08");
  }

  private static void octetsAndNullContent() {
    sentence("o: the bytes. n: none.");
    valueOf("A=o;", 0, "04 00", "4/0/0/-1");
    valueOf("A=o;", 1, "04 03 00 80 ff", "4/3/0/-1:0.128.255");
    valueOf("A=n;", 0, "05 00", "5/0/0/-1");
    neither("A=n;", "05 01 00", "05 02 00 00", "05 00 00", "05", "05 01");
    neither("A=q{n,b};", "30 05 05 03 01 01 ff");
  }

  private static void componentsInTheirOrder() {
    sentence("q: the components in their order, those that are there.");
    String text = "A=q{b,i(0,7)?,n};";
    same(text, "30 05 01 01 ff 05 00", "40");
    same(text, "30 08 01 01 ff 02 01 07 05 00", "f8");
    neither(text, "30 00", "30 02 05 00", "30 03 01 01 ff", "30 06 01 01 ff 02 01 07", "30 05 02 01 07 05 00");
    neither(text, "30 05 05 00 01 01 ff", "30 08 01 01 ff 05 00 02 01 07", "30 08 02 01 07 01 01 ff 05 00");
    neither(text, "30 0b 01 01 ff 02 01 07 02 01 07 05 00", "30 07 01 01 ff 05 00 05 00");
    neither(text, "30 08 01 01 ff 01 01 ff 05 00", "30 08 01 01 ff 04 01 07 05 00");
    neither(text, "30 06 01 01 ff 05 00 00", "30 04 01 01 ff 05 00");
    neither("A=q{};", "30 02 05 00", "30 01 00", "30 00 00");
    // What stands behind the last component is not the next one of the sequence around.
    neither("A=q{q{b},n};", "30 07 30 05 01 01 ff 05 00", "30 07 30 02 01 01 ff 05 00");
    neither("A=q{q{b?},n};", "30 04 30 02 05 00", "30 04 30 01 05 00");
    same("A=q{b?,i(0,7)?,n?};", "30 00", "00");
    same("A=q{b?,i(0,7)?,n?};", "30 02 05 00", "20");
  }

  private static void itemsOfAList() {
    sentence("l: the items.");
    same("A=lb;", "30 00", "00");
    same("A=lb;", "30 03 01 01 ff", "01 80");
    same("A=lb;", "30 06 01 01 00 01 01 ff", "02 40");
    neither("A=lb;", "30 02 05 00", "30 05 01 01 ff 05 00", "30 01 00", "30 02 00 00");
    neither("A=lb;", "30 04 01 01 ff 00", "30 04 01 01 ff 01");
    same("A=lc{b,n};", "30 07 05 00 01 01 ff 05 00", "03 b0");
    neither("A=q{lb,n};", "30 07 30 05 01 01 ff 05 00", "30 04 30 02 05 00", "30 07 30 02 01 01 ff 05 00");
  }

  private static void numbersAsTheSizeSays() {
    sentence("Numbers of bytes and items as the size says.");
    int[][] sizes = {{0, 0}, {0, 1}, {1, 1}, {2, 4}, {3, 3}, {0, 20}, {19, 20}, {20, 20}};
    for (int[] size : sizes) {
      String bounds = "(" + size[0] + "," + size[1] + ")";
      for (int n : new int[] {size[0] - 1, size[0], size[1], size[1] + 1}) {
        if (n < 0) {
          continue;
        }
        String octets = String.format("04 %02x", n) + " 5a".repeat(n);
        String items = String.format("30 %02x", 2 * n) + " 05 00".repeat(n);
        if (n >= size[0] && n <= size[1]) {
          becomes("A=o" + bounds + ";", 0, octets, 1, octets);
          becomes("A=l" + bounds + "n;", 1, items, 1, items);
        } else {
          neither("A=o" + bounds + ";", octets);
          neither("A=l" + bounds + "n;", items);
        }
      }
    }
    neither("A=l(1,2)n;", "30 80 00 00", "30 80 05 00 05 00 05 00 00 00");
  }

  private static void strictLengths() {
    sentence("STRICT: lengths as short as they can be (no 128)");
    loose("A=i;", "02 02 01 00", "02 81 02 01 00", "02 82 00 02 01 00");
    loose("A=lq{};", "30 02 30 00", "30 81 02 30 00", "30 80 30 00 00 00", "30 04 30 80 00 00", "30 03 30 81 00");
    loose("A=[1]n;", "a1 02 05 00", "a1 80 05 00 00 00", "a1 03 05 81 00", "a1 82 00 02 05 00");
    // What was read with other lengths is written with the shortest ones.
    String longest = "04 76" + " 5a".repeat(118);
    becomes("A=o;", 2, "76" + " 5a".repeat(118), 1, longest);
  }

  private static void strictTrue() {
    sentence("true is 255");
    for (int b = 1; b < 255; b++) {
      String bytes = String.format("01 01 %02x", b);
      becomes("A=b;", 0, bytes, 1, "01 01 ff");
      none("A=b;", 1, bytes);
    }
    becomes("A=b;", 1, "01 01 ff", 1, "01 01 ff");
    becomes("A=b;", 1, "01 01 00", 1, "01 01 00");
    becomes("A=b;", 2, "80", 1, "01 01 ff");
  }

  private static void strictDefaults() {
    sentence("no component that has its default; read by rules 1, other bytes are no value's.");
    loose("A=q{b=1};", "30 00", "30 03 01 01 ff");
    loose("A=q{b=0};", "30 00", "30 03 01 01 00");
    loose("A=q{i=-1};", "30 00", "30 03 02 01 ff");
    loose("A=q{i(0,5)=2,n};", "30 02 05 00", "30 05 02 01 02 05 00");
    loose("A=q{[0]i=300};", "30 00", "30 06 a0 04 02 02 01 2c");
    loose("B=[1!]b;A=q{[0]B=1,[2]B=0};", "30 00", "30 05 a0 03 81 01 ff", "30 0a a0 03 81 01 07 a2 03 81 01 00");
    loose("A=q{b=1,i=5};", "30 03 02 01 06", "30 06 01 01 ff 02 01 06");
    same("A=q{b=1};", "30 03 01 01 00", "80");
    same("A=q{i(0,3)=2};", "30 03 02 01 03", "e0");
    same("A=q{b?,i(0,3)?};", "30 03 02 01 00", "40");
  }

  // ---- the packed rules

  private static void toAlign() {
    sentence("TO ALIGN: bits 0 up to the next whole byte.");
    String[][] rows = {
      {"A=q{b,i};", "30 06 01 01 ff 02 01 05", "80", " 01 05"},
      {"A=q{b,i(0,255)};", "30 06 01 01 ff 02 01 05", "80", " 05"},
      {"A=q{b,i(0,256)};", "30 06 01 01 ff 02 01 05", "80", " 00 05"},
      {"A=q{b,o};", "30 06 01 01 ff 04 01 05", "80", " 01 05"},
      {"A=q{b,o(3,3)};", "30 08 01 01 ff 04 03 05 06 07", "80", " 05 06 07"},
      {"A=q{b,lb};", "30 05 01 01 ff 30 00", "80", " 00"},
      {"A=q{b,n};", "30 05 01 01 ff 05 00", "80", ""},
    };
    for (String[] row : rows) {
      same(row[0], row[1], row[2] + row[3]);
      for (int bit = 1; bit < 128; bit *= 2) {
        none(row[0], 2, String.format("%02x", 128 + bit) + row[3]);
      }
    }
    // Bits that are to be 0 are not those of what stands behind, either.
    none("A=q{b,i(0,255),l(7,7)b};", 2, "81", "81 05", "81 00 00");
    none("A=q{b,o,l(7,7)b};", 2, "81", "81 00", "81 00 00");
    // At a whole byte already there is nothing to align.
    same("A=q{l(8,8)b,i};", "30 1d 30 18 " + times(8, "01 01 ff ") + " 02 01 05", "ff 01 05");
    same("A=q{i(0,255),i(0,255)};", "30 06 02 01 01 02 01 02", "01 02");
  }

  private static void justOneNumber() {
    sentence("A number of lo .. hi: nothing, if there is just one");
    same("A=i(7,7);", "02 01 07", "00");
    same("A=i(-99999,-99999);", "02 03 fe 79 61", "00");
    same("A=q{b,i(7,7),b};", "30 09 01 01 ff 02 01 07 01 01 ff", "c0");
    same("A=q{b,o(0,0),b};", "30 08 01 01 ff 04 00 01 01 ff", "c0");
    same("A=q{b,l(1,1)b,b};", "30 0b 01 01 ff 30 03 01 01 ff 01 01 ff", "e0");
    same("A=q{b,c{b},b};", "30 09 01 01 ff 01 01 ff 01 01 ff", "e0");
  }

  private static void upTo255Numbers() {
    sentence("if there are up to 255, as many bits as hi - lo needs, for the number - lo");
    String b = "30 06 01 01 ff 02 01 ";
    same("A=q{b,i(0,1)};", b + "01", "c0");
    same("A=q{b,i(0,2)};", b + "02", "c0");
    none("A=q{b,i(0,2)};", 2, "e0");
    same("A=q{b,i(0,3)};", b + "03", "e0");
    same("A=q{b,i(0,4)};", b + "04", "c0");
    none("A=q{b,i(0,4)};", 2, "d0", "e0", "f0");
    same("A=q{b,i(0,7)};", b + "07", "f0");
    same("A=q{b,i(0,8)};", b + "08", "c0");
    same("A=q{b,i(0,127)};", b + "7f", "ff");
    same("A=q{b,i(0,128)};", "30 07 01 01 ff 02 02 00 80", "c0 00");
    none("A=q{b,i(0,128)};", 2, "c0 80", "ff 80");
    same("A=q{b,i(0,253)};", "30 07 01 01 ff 02 02 00 fd", "fe 80");
    none("A=q{b,i(0,253)};", 2, "ff 00", "ff 80");
    same("A=q{b,i(0,254)};", "30 07 01 01 ff 02 02 00 fe", "ff 00");
    none("A=q{b,i(0,254)};", 2, "ff 80", "80 fe");
    same("A=q{b,i(-100,154)};", b + "9c", "80 00");
    same("A=q{b,i(-6,-5)};", b + "fb", "c0");
    same("A=q{b,i(-6,-5)};", b + "fa", "80");
    same("A=q{b,i(99998,99999)};", "30 08 01 01 ff 02 03 01 86 9f", "c0");
  }

  private static void moreNumbers() {
    sentence("otherwise aligned, 8 bits if there are 256, or else 16");
    String b = "30 06 01 01 ff 02 01 ";
    same("A=q{b,i(0,255)};", b + "00", "80 00");
    same("A=q{b,i(0,255)};", "30 07 01 01 ff 02 02 00 ff", "80 ff");
    none("A=q{b,i(0,255)};", 2, "ff 80", "80 00 00", "80");
    same("A=q{b,i(-128,127)};", b + "80", "80 00");
    same("A=q{b,i(-128,127)};", b + "7f", "80 ff");
    same("A=q{b,i(0,256)};", b + "05", "80 00 05");
    same("A=q{b,i(0,256)};", "30 07 01 01 ff 02 02 01 00", "80 01 00");
    none("A=q{b,i(0,256)};", 2, "80 01 01", "80 02 00", "80 ff ff", "80 05", "80 00");
    same("A=q{b,i(-1,255)};", b + "ff", "80 00 00");
    same("A=i(0,65534);", "02 03 00 ff fe", "ff fe");
    none("A=i(0,65534);", 2, "ff ff");
    same("A=i(0,65535);", "02 03 00 ff ff", "ff ff");
    same("A=i(-32768,32767);", "02 02 7f ff", "ff ff");
    same("A=i(-32768,32767);", "02 02 80 00", "00 00");
    same("A=i(-99999,-34464);", "02 03 ff 79 60", "ff ff");
  }

  private static void packedBooleansAndNumbers() {
    sentence("b: a bit. i with a range: such a number.");
    same("A=b;", "01 01 ff", "80");
    same("A=b;", "01 01 00", "00");
    same("A=l(8,8)b;", "30 18 " + times(8, "01 01 ff "), "ff");
    same("A=l(9,9)b;", "30 1b " + times(9, "01 01 ff "), "ff 80");
    same("A=l(3,3)i(0,7);", "30 09 02 01 05 02 01 00 02 01 07", "a3 80");
    none("A=l(9,9)b;", 2, "ff", "ff 80 00", "ff c0");
  }

  private static void packedIntegers() {
    sentence("i without: aligned, a byte 1 .. 4, how many bytes, and these as above.");
    same("A=q{b,i,b};", "30 09 01 01 ff 02 01 05 01 01 ff", "80 01 05 80");
    same("A=q{b,i};", "30 09 01 01 ff 02 04 80 00 00 00", "80 04 80 00 00 00");
    none("A=q{b,i};", 2, "80", "80 00", "80 01", "80 02 01", "80 04 01 02 03", "80 05 01 02 03 04 05", "80 81 01 05");
    none("A=q{b,i};", 2, "80 ff 05", "80 02 00 05", "80 02 ff 85", "80 01 05 00", "80 00 05");
  }

  private static void packedNulls() {
    sentence("n: nothing.");
    same("A=q{b,n,b};", "30 08 01 01 ff 05 00 01 01 ff", "c0");
    same("A=q{b,n?,b};", "30 08 01 01 ff 05 00 01 01 ff", "e0");
    same("A=ln;", "30 04 05 00 05 00", "02");
  }

  private static void packedOctets() {
    sentence("o with a size: the number of bytes, as a number of the size; the bytes, aligned if there are any, "
        + "unless the size says one number, 2 at most.");
    same("A=q{b,o(1,1),b};", "30 09 01 01 00 04 01 ff 01 01 ff", "7f c0");
    same("A=q{b,o(2,2),b};", "30 0a 01 01 00 04 02 ff ff 01 01 00", "7f ff 80");
    same("A=q{b,o(3,3),b};", "30 0b 01 01 ff 04 03 0a 0b 0c 01 01 ff", "80 0a 0b 0c 80");
    same("A=q{b,o(20,20)};", "30 19 01 01 ff 04 14" + " 5a".repeat(20), "80" + " 5a".repeat(20));
    same("A=q{b,o(0,1),b};", "30 08 01 01 ff 04 00 01 01 ff", "a0");
    same("A=q{b,o(0,1),b};", "30 09 01 01 ff 04 01 0a 01 01 ff", "c0 0a 80");
    same("A=q{b,o(1,2)};", "30 06 01 01 ff 04 01 0a", "80 0a");
    same("A=q{b,o(1,2)};", "30 07 01 01 ff 04 02 0a 0b", "c0 0a 0b");
    same("A=q{b,o(0,2),b};", "30 08 01 01 ff 04 00 01 01 ff", "90");
    same("A=q{b,o(2,3)};", "30 07 01 01 ff 04 02 0a 0b", "80 0a 0b");
    same("A=q{b,o(1,4)};", "30 09 01 01 ff 04 04 0a 0b 0c 0d", "e0 0a 0b 0c 0d");
    same("A=q{b,o(1,4)};", "30 06 01 01 ff 04 01 0a", "80 0a");
    same("A=q{b,o(0,20),b};", "30 08 01 01 ff 04 00 01 01 ff", "82");
    same("A=q{b,o(0,20)};", "30 19 01 01 ff 04 14" + " 5a".repeat(20), "d0" + " 5a".repeat(20));
    none("A=q{b,o(0,20)};", 2, "d4" + " 5a".repeat(21), "d8" + " 5a".repeat(22), "d0" + " 5a".repeat(19), "84");
    none("A=q{b,o(0,2)};", 2, "e0", "e0 0a 0b 0c", "a0", "90 0a", "a0 0a 0b");
    none("A=q{b,o(1,1)};", 2, "80", "80 0a", "85 01");
    none("A=q{b,o(3,3)};", 2, "80 0a 0b", "85 05 86 00");
  }

  private static void packedItems() {
    sentence("l with a size: the number of items likewise");
    same("A=q{b,l(0,20)b};", "30 05 01 01 ff 30 00", "80");
    same("A=q{b,l(0,20)b};", "30 08 01 01 ff 30 03 01 01 ff", "86");
    same("A=q{b,l(0,20)n};", "30 2d 01 01 ff 30 28 " + times(20, "05 00 "), "d0");
    none("A=q{b,l(0,20)n};", 2, "d4", "d8", "fc");
    same("A=q{b,l(3,3)b};", "30 0e 01 01 ff 30 09 01 01 ff 01 01 00 01 01 ff", "d0");
    same("A=q{b,l(1,2)b};", "30 0b 01 01 ff 30 06 01 01 ff 01 01 ff", "f0");
    same("A=q{b,l(2,4)i(0,3)};", "30 0e 01 01 ff 30 09 02 01 03 02 01 00 02 01 03", "b9 80");
    same("A=q{b,l(3,6)n};", "30 0b 01 01 ff 30 06 05 00 05 00 05 00", "80");
    same("A=q{b,l(3,6)n};", "30 0d 01 01 ff 30 08 05 00 05 00 05 00 05 00", "a0");
    none("A=q{b,l(2,4)n};", 2, "e0");
    none("A=q{b,l(1,2)b};", 2, "80 80", "f8");
  }

  private static void packedWithoutSize() {
    sentence("without, as for o without one: aligned, a byte 0 .. 127, how many (more there cannot be).");
    same("A=q{b,o};", "30 05 01 01 ff 04 00", "80 00");
    same("A=q{b,l[1]b};", "30 05 01 01 ff 30 00", "80 00");
    same("A=q{b,li(0,3)};", "30 08 01 01 ff 30 03 02 01 03", "80 01 c0");
    String most = "77" + " 5a".repeat(119);
    becomes("A=o;", 2, most, 2, most);
    none("A=o;", 2, "", "01", "02 5a", "00 5a", "01 5a 5a", "78" + " 5a".repeat(119), "7f" + " 5a".repeat(119));
    none("A=o;", 2, "80" + " 5a".repeat(119), "81 5a", "ff");
    becomes("A=ln;", 2, "63", 2, "63");
    none("A=ln;", 2, "80", "81", "ff", "", "00 00");
    none("A=lb;", 2, "80", "09 ff", "01", "01 40");
  }

  private static void alignedAlready() {
    sentence("(Bytes behind such a byte are aligned already.)");
    same("A=q{b,o,b};", "30 0a 01 01 ff 04 02 0a 0b 01 01 ff", "80 02 0a 0b 80");
    same("A=q{b,lo(1,1),b};", "30 0b 01 01 ff 30 03 04 01 0a 01 01 ff", "80 01 0a 80");
    same("A=q{b,lb,b};", "30 0b 01 01 ff 30 03 01 01 ff 01 01 ff", "80 01 c0");
  }

  private static void bitsOfASequence() {
    sentence("q: for each component that is OPTIONAL or has a DEFAULT, in their order, a bit: 1 if it is there, or "
        + "has another value; then the components that are.");
    String text = "A=q{b?,i(0,3)=1,n?,o(1,1)};";
    same(text, "30 03 04 01 aa", "15 40");
    same(text, "30 06 01 01 ff 04 01 aa", "9a a0");
    same(text, "30 06 02 01 02 04 01 aa", "55 50");
    same(text, "30 05 05 00 04 01 aa", "35 40");
    same(text, "30 0b 01 01 00 02 01 03 05 00 04 01 aa", "ee a8");
    none(text, 2, "4d 50", "15 41", "15", "15 40 00");
    none("A=q{o(1,1),q{b?}};", 2, "aa");
    none("A=q{o(1,1),q{b=1}};", 2, "aa");
    none("A=q{o(1,1),q{n?}};", 2, "aa");
    none("A=q{b=1};", 2, "c0");
    none("A=q{b=0};", 2, "80");
    none("A=q{i=5};", 2, "80 01 05");
    same("A=q{i=5};", "30 03 02 01 06", "80 01 06");
    same("A=q{[0]n?,[1]n?,[2]n?,[3]n?,[4]n?,[5]n?};", "30 04 a0 02 05 00", "80");
    same("A=q{[0]n?,[1]n?,[2]n?,[3]n?,[4]n?,[5]n?};", "30 04 a5 02 05 00", "04");
    none("A=q{[0]n?,[1]n?,[2]n?,[3]n?,[4]n?,[5]n?};", 2, "02", "01");
    same("A=q{q{b?}?,b?};", "30 02 30 00", "80");
    same("A=q{q{b?}?,b?};", "30 05 30 03 01 01 ff", "b0");
  }

  private static void numberOfAnAlternative() {
    sentence("c: which alternative, as a number of 0 .. how many there are - 1, in the order of the least tags "
        + "that they begin with; then this.");
    same("A=c{n};", "05 00", "00");
    same("A=c{n,b};", "05 00", "80");
    same("A=c{n,b};", "01 01 ff", "40");
    same("A=c{n,b,i(0,1)};", "05 00", "80");
    none("A=c{n,b,i(0,1)};", 2, "c0");
    same("A=c{n,b,i(0,1),o(1,1)};", "05 00", "c0");
    same("A=c{[9]n,n,b,i(0,1),o(1,1)};", "a9 02 05 00", "80");
    none("A=c{[9]n,n,b,i(0,1),o(1,1)};", 2, "a0", "c0", "e0");
    same("A=c{[9]n,q{},n,b,i(0,1),o(1,1)};", "a9 02 05 00", "a0");
    none("A=c{[9]n,q{},n,b,i(0,1),o(1,1)};", 2, "c0", "e0");
    String all = "A=c{[9!]n,[0!]n,q{},n,o(1,1),b};";
    same(all, "01 01 ff", "10");
    same(all, "04 01 ff", "3f e0");
    same(all, "05 00", "40");
    same(all, "30 00", "60");
    same(all, "80 00", "80");
    same(all, "89 00", "a0");
    valueOf(all, 2, "40", "9/3/0/-1 5/0/0/0");
    // A choice inside counts with the least of its tags.
    same("A=c{o(1,1),c{[9!]n,b}};", "89 00", "40");
    same("A=c{o(1,1),c{[9!]n,n}};", "89 00", "c0");
    same("A=c{[0]b,[1!]c{b,n}};", "a1 02 05 00", "c0");
  }

  private static void packedEnd() {
    sentence("At the end bits 0 up to a whole byte; where there are no bits at all a byte 0.");
    same("A=b;", "01 01 ff", "80");
    none("A=b;", 2, "", "80 00", "c0", "81", "01", "00 00");
    String[] withoutBits = {"A=n;", "A=q{};", "A=q{n,n};", "A=c{n};", "A=i(0,0);", "A=o(0,0);", "A=l(0,0)b;"};
    for (String text : withoutBits) {
      becomes(text, 2, "00", 2, "00");
      none(text, 2, "", "00 00", "01", "80", "ff");
    }
    same("A=l(8,8)b;", "30 18 " + times(8, "01 01 00 "), "00");
    none("A=l(8,8)b;", 2, "00 00", "");
  }

  private static void noOtherPackedBytes() {
    sentence("There are no other packed bytes of a value than these.");
    packedValues("A=b;", 1, 2);
    packedValues("A=n;", 1, 1);
    packedValues("A=i(0,2);", 1, 3);
    packedValues("A=i(0,254);", 1, 255);
    packedValues("A=i(0,255);", 1, 256);
    packedValues("A=i(0,999);", 2, 1000);
    packedValues("A=i;", 2, 256);
    packedValues("A=o(0,1);", 1, 1);
    packedValues("A=o(0,1);", 2, 256);
    packedValues("A=q{b?,n,b=1};", 1, 6);
    packedValues("A=q{i(0,4)?,n?};", 1, 12);
    packedValues("A=c{b,n,i(0,6)};", 1, 10);
    packedValues("A=l(0,2)b;", 1, 7);
    packedValues("A=lb;", 1, 1);
    packedValues("A=lb;", 2, 510);
  }

  /** Of all rows of as many bytes, so many are those of a value, which is written with them again. */
  private static void packedValues(String text, int length, int due) {
    int found = 0;
    Desk d = module(text);
    for (int n = 0; n < 1 << 8 * length; n++) {
      if (d.calls > CALL_LIMIT - 10) {
        d = module(text);
      }
      d.said = "";
      d.say("wipe", "put " + n + " " + length + " = true");
      if (!d.ask("transcode A 2 2").equals("-1")) {
        d.say("at -1 = " + length, "at 0 = " + (n >> 8 * (length - 1)));
        found++;
      }
    }
    if (found != due) {
      complain(text + " has " + found + " values of " + length + " packed bytes, due is " + due);
    }
  }

  // ---- operations and messages

  private static Desk server() {
    Desk d = module("A=b;B=lb;C=n;").say("operation 0 A 1 2 = done", "operation 2 A 0 1 = done");
    return d.say("operation 3 B 2 1 = done", "operation 7 C 2 2 = done");
  }

  private static void served(Desk d, String message, String reply) {
    d.bytes(message).say("serve = " + Integer.parseInt(reply.substring(0, 2), 16), "buffer = " + reply);
  }

  private static void eightOperations() {
    sentence("OPERATIONS 0 .. 7 have a type, and rules for what they take and for what they answer. A MESSAGE to "
        + "be SERVED: 1, an ID, an operation, and the bytes of an argument.");
    Desk d = module("A=b;B=n;");
    for (int k = 0; k <= 7; k++) {
      d.say("operation " + k + (k % 2 == 0 ? " A " : " B ") + (k / 2 % 3) + " " + (1 + k / 4) + " = done");
    }
    served(d, "01 10 00 01 01 07", "02 10 00 01 01 ff");
    served(d, "01 11 01 05 81 00", "02 11 01 05 00");
    served(d, "01 12 02 01 01 ff", "02 12 02 01 01 ff");
    served(d, "01 13 03 05 00", "02 13 03 05 00");
    served(d, "01 14 04 80", "02 14 04 80");
    served(d, "01 15 05 00", "02 15 05 00");
    served(d, "01 16 06 01 01 07", "02 16 06 80");
    served(d, "01 17 07 05 00", "02 17 07 00");
    served(d, "01 18 08 05 00", "04 18 02");
    d.say("operation -1 A 0 1 = " + ARGUMENT, "operation 8 A 0 1 = " + ARGUMENT);
  }

  private static void messagesThatAreNone() {
    sentence("Its REPLY: 4, the ID (the second byte, 0 if there is none), 1, if the message has fewer than three "
        + "bytes or begins with something else");
    Desk d = server();
    served(d, "01 2a 00 01 01 ff", "02 2a 00 80");
    served(d, "", "04 00 01");
    served(d, "01", "04 00 01");
    served(d, "07", "04 00 01");
    served(d, "01 2b", "04 2b 01");
    served(d, "07 ff", "04 ff 01");
    served(d, "00 2b 00 01 01 ff", "04 2b 01");
    served(d, "02 2b 00 01 01 ff", "04 2b 01");
    served(d, "ff 2b 09", "04 2b 01");
    // Ahead of an ID that was served.
    served(d, "01 2a", "04 2a 01");
    served(d, "81 2a 00 01 01 ff", "04 2a 01");
    // What was put on earlier is no part of a shorter message.
    served(d, "01 2b 00 01 01 ff", "02 2b 00 80");
  }

  private static void noSuchOperation() {
    sentence("4, ID, 2, if there is no such operation");
    Desk d = server();
    served(d, "01 05 01 01 01 ff", "04 05 02");
    served(d, "01 05 08 01 01 ff", "04 05 02");
    served(d, "01 05 80 01 01 ff", "04 05 02");
    served(d, "01 05 ff", "04 05 02");
    served(d, "01 05 07 00", "02 05 07 00");
    // Ahead of an ID that was served.
    served(d, "01 05 06 00", "04 05 02");
    served(d, "01 05 07 00", "04 05 03");
    served(module("A=b;"), "01 05 00 01 01 ff", "04 05 02");
  }

  private static void servedBefore() {
    sentence("4, ID, 3, if this ID was served before with a reply that does not begin with 4 (since the module was "
        + "compiled, also by another operation)");
    Desk d = server();
    served(d, "01 05 07 00", "02 05 07 00");
    served(d, "01 05 07 00", "04 05 03");
    served(d, "01 05 07 00", "04 05 03");
    served(d, "01 05 00 01 01 ff", "04 05 03");
    // Ahead of bytes that are no value's, and of a reply that is too long.
    served(d, "01 05 00 09", "04 05 03");
    served(d, "01 05 03 3c 00 00 00 00 00 00 00 00", "04 05 03");
    // A reply that begins with 3 serves, too; one that begins with 4 does not.
    served(d, "01 06 00 09", "03 06");
    served(d, "01 06 00 01 01 ff", "04 06 03");
    served(d, "01 07", "04 07 01");
    served(d, "01 07 06", "04 07 02");
    served(d, "01 07 03 3c 00 00 00 00 00 00 00 00", "04 07 04");
    served(d, "01 07 07 00", "02 07 07 00");
    d.say("operation 7 C 0 1 = done");
    served(d, "01 07 07 05 00", "04 07 03");
    d.say("compile = 0", "operation 7 C 2 2 = done");
    served(d, "01 05 07 00", "02 05 07 00");
    served(d, "01 05 07 00", "04 05 03");
    d.say("clear = 13").text("C=n;").say("compile = 0", "operation 7 C 2 2 = done");
    served(d, "01 05 07 00", "02 05 07 00");
  }

  private static void eachIdIsItsOwn() {
    sentence("this ID was served before");
    for (int id : new int[] {0, 1, 63, 64, 127, 128, 191, 192, 255}) {
      Desk d = server();
      String first = String.format("%02x", id);
      served(d, "01 " + first + " 07 00", "02 " + first + " 07 00");
      for (int bit = 1; bit < 256; bit *= 2) {
        String other = String.format("%02x", id ^ bit);
        served(d, "01 " + other + " 07 00", "02 " + other + " 07 00");
      }
      served(d, "01 " + first + " 07 00", "04 " + first + " 03");
    }
  }

  private static void noValuesBytes() {
    sentence("3, ID, if the bytes are not those of a value");
    Desk d = server();
    served(d, "01 01 00", "03 01");
    served(d, "01 02 00 01 01", "03 02");
    served(d, "01 03 00 01 01 ff 00", "03 03");
    served(d, "01 04 00 01 01 01", "03 04");
    served(d, "01 05 02 01 01 01", "02 05 02 01 01 ff");
    served(d, "01 06 07", "03 06");
    served(d, "01 07 07 01", "03 07");
    served(d, "01 08 07 00 00", "03 08");
    served(d, "01 09 07 00", "02 09 07 00");
    // More than 100 parts.
    d.say("compile = 0");
    Desk parts = module("A=ln;").say("operation 0 A 2 2 = done");
    served(parts, "01 01 00 64", "03 01");
    served(parts, "01 02 00 63", "02 02 00 63");
  }

  private static void longReplies() {
    sentence("4, ID, 4, if the reply would have more than 120 bytes");
    Desk d = module("A=o;B=l[1]b;").say("operation 0 A 2 1 = done", "operation 1 B 2 1 = done");
    served(d, "01 01 00 73" + " 5a".repeat(115), "02 01 00 04 73" + " 5a".repeat(115));
    d.say("parts = 1");
    d = module("A=o;B=l[1]b;").say("operation 0 A 2 1 = done", "operation 1 B 2 1 = done");
    served(d, "01 01 00 74" + " 5a".repeat(116), "04 01 04");
    d.say("parts = 0");
    // Items of five bytes: 23 of them and two heads are 120 bytes, 24 are too many.
    served(d, "01 02 01 17 00 00 00", "02 02 01 30 73" + " a1 03 01 01 00".repeat(23));
    served(d, "01 03 01 18 00 00 00", "04 03 04");
    served(d, "01 03 01 00", "02 03 01 30 00");
    Desk packed = module(WIDE_WHEN_PACKED).say("operation 0 A 1 2 = done");
    served(packed, "01 01 00 " + wideStrict(19), "02 01 00 " + widePacked(19));
    served(packed, "01 02 00 " + wideStrict(20), "04 02 04");
  }

  private static String wideStrict(int octets) {
    return element("30", element("04", times(octets, "07 ")) + " " + element("30", times(24, "02 01 09 ")));
  }

  private static String widePacked(int octets) {
    return String.format("%02x", octets) + " 07".repeat(octets) + " 18" + " 00 80 00 09".repeat(24);
  }

  private static void answers() {
    sentence("else 2, ID, the operation, the value as the operation answers.");
    Desk d = server();
    served(d, "01 00 00 01 01 ff", "02 00 00 80");
    d.say("value = 1/1/0/-1");
    served(d, "01 ff 02 01 82 00 01 00", "02 ff 02 01 01 00");
    d.say("value = 1/0/0/-1");
    served(d, "01 01 03 02 40", "02 01 03 30 06 01 01 00 01 01 ff");
    d.say("value = 7/2/0/-1 1/0/0/0 1/1/1/0");
    served(d, "01 02 07 00", "02 02 07 00");
    d.say("value = 5/0/0/-1");
  }

  private static void throwingChangesNothing() {
    sentence("A method that throws changes nothing.");
    String[] throwing = {
      "at 9 = " + NO_INDEX, "at -2 = " + NO_INDEX, "part 0 4 = " + ARGUMENT, "part 2 0 = " + NO_ELEMENT,
      "octet 0 0 = " + NO_ELEMENT, "octet 1 2 = " + NO_ELEMENT, "transcode A 3 1 = " + ARGUMENT,
      "transcode Z 2 1 = " + NO_ELEMENT, "transcode B 2 1 = " + TOO_LONG, "operation 8 A 0 1 = " + ARGUMENT,
      "operation 3 B 0 0 = " + ARGUMENT, "operation 3 Z 0 1 = " + NO_ELEMENT, "operation 5 Z 0 1 = " + NO_ELEMENT,
    };
    String due = stateBehind();
    for (String row : throwing) {
      String got = stateBehind(row);
      if (!got.equals(due)) {
        complain(row + ": the state is " + got + ", without the call " + due);
      }
    }
    stateBehind(throwing);
    Desk none = new Desk().text("A=b;").bytes("01 01 ff");
    none.say("transcode A 0 1 = " + STATE, "operation 0 A 0 1 = " + STATE, "serve = " + STATE, "buffer = 01 01 ff");
    none.say("parts = 0", "compile = 0", "transcode A 0 2 = 1", "clear = 4");
  }

  /** All that can be seen of a desk behind these calls. */
  private static String stateBehind(String... rows) {
    Desk d = module("A=q{o,b?};B=lb;").say("operation 0 A 0 1 = done", "operation 3 B 2 2 = done");
    d.bytes("01 09 00 30 04 04 02 aa bb").say("serve = 2").bytes("3c aa aa aa aa aa aa aa a0").say(rows);
    StringBuilder s = new StringBuilder(d.ask("buffer") + ", " + d.ask("value"));
    String[] messages = {"01 09 00", "01 0a 00 30 02 04 00", "01 0b 03 01 80", "01 0c 05 00", "01 0d 07"};
    for (String message : messages) {
      s.append(", ").append(d.bytes(message).ask("serve")).append(": ").append(d.ask("buffer"));
    }
    return s + ", " + d.ask("compile") + ", " + d.ask("clear");
  }

  // ---- the promises

  private static void newObject() {
    sentence("No text, no module, an empty buffer, no value.");
    new Desk().say("clear = 0", "compile = 1");
    new Desk().say("compile = 1", "clear = 0");
    new Desk().say("transcode A 0 1 = " + STATE, "operation 0 A 0 1 = " + STATE, "serve = " + STATE);
    new Desk().say("at -1 = 0", "at 0 = " + NO_INDEX, "wipe = 0");
    new Desk().say("parts = 0", "part 0 0 = " + NO_ELEMENT, "octet 0 0 = " + NO_ELEMENT);
    Desk used = module("A=b;").bytes("01 01 ff").say("transcode A 0 1 = 3", "operation 0 A 0 1 = done");
    new Desk().say("parts = 0", "at -1 = 0", "serve = " + STATE, "clear = 0");
    used.say("parts = 1", "at -1 = 3", "serve = 4", "clear = 4");
  }

  private static void typeOfAnyCode() {
    sentence("Appends a character, of any code, to the text");
    new Desk().say("type 0 = true", "type 255 = true", "type 256 = true", "type 65535 = true", "clear = 4");
    new Desk().say("type 321 = true", "compile = 1");
    new Desk().say("type 65 = true", "type 61 = true", "type 98 = true", "type 59 = true", "compile = 0");
    new Desk().say("type 65 = true", "type 61 = true", "type 65535 = true", "compile = 33");
  }

  private static void typeEndsTheModule() {
    sentence("there is no module then (and no operation, no value): true");
    for (String call : new String[] {"type 66 = true", "clear = 4"}) {
      Desk d = module("A=n;").say("operation 0 A 0 1 = done");
      served(d, "01 05 00 05 00", "02 05 00 05 00");
      d.say("parts = 1", call, "parts = 0", "part 0 0 = " + NO_ELEMENT, "serve = " + STATE);
      d.say("transcode A 0 1 = " + STATE, "operation 0 A 0 1 = " + STATE, "buffer = 02 05 00 05 00");
      d.text(call.startsWith("clear") ? "A=n;" : "=b;").say("compile = 0", "parts = 0");
      served(d, "01 05 00 05 00", "04 05 02");
      d.say("operation 0 A 0 1 = done");
      served(d, "01 05 00 05 00", "02 05 00 05 00");
    }
  }

  private static void typeOfThe151st() {
    sentence("refused (false) when it has 150.");
    Desk d = new Desk();
    for (int i = 0; i < 150; i++) {
      d.say("type 65 = true");
    }
    d.say("type 65 = false", "type 0 = false", "compile = 17", "clear = 150", "type 65 = true", "clear = 1");
    Desk full = module(fullText()).say("operation 0 A 0 1 = done").bytes("01 01 ff").say("transcode A 0 1 = 3");
    full.say("type 66 = false", "parts = 1");
    served(full, "01 05 00 01 01 00", "02 05 00 01 01 00");
    full.say("type 66 = false", "compile = 0", "clear = 150");
    new Desk().text(fullText().substring(0, 149)).say("type 59 = true", "compile = 0", "type 59 = false");
  }

  private static void clearAnswers() {
    sentence("The text is empty; as type() otherwise. Answers how many characters it had.");
    new Desk().text("A").say("clear = 1", "clear = 0", "compile = 1");
    module("A=b;").say("clear = 4", "clear = 0").text("B=n;").say("compile = 0", "transcode A 0 1 = " + NO_ELEMENT);
    new Desk().text(fullText()).say("clear = 150", "type 65 = true", "clear = 1");
  }

  private static void compileMakesAModule() {
    sentence("Compiles the text: 0; there is the module then, without operations, and no ID was served");
    Desk d = module("A=n;").say("operation 0 A 0 1 = done");
    served(d, "01 05 00 05 00", "02 05 00 05 00");
    d.say("compile = 0", "transcode A 0 1 = -1");
    served(d, "01 05 00 05 00", "04 05 02");
    d.say("operation 0 A 0 1 = done");
    served(d, "01 05 00 05 00", "02 05 00 05 00");
  }

  private static void compileOfAFault() {
    sentence("or the fault + 16 * its place: there is none then.");
    String[][] rows = {
      {"A=x;", "33"}, {"A=b;A=b;", "66"}, {"A=B;", "35"}, {"A=i(1,0);", "116"}, {"A=llllllb;", "133"},
      {"A=c{b,b};", "118"}, {"A=q{b,b,b,b,b,b,b};", "247"}, {"A=b;B", "81"},
    };
    for (String[] row : rows) {
      Desk d = new Desk().text(row[0]).say("compile = " + row[1], "compile = " + row[1]);
      d.say("transcode A 0 1 = " + STATE, "operation 0 A 0 1 = " + STATE, "serve = " + STATE);
      d.say("clear = " + row[0].length()).text("A=b;").say("compile = 0", "clear = 4");
    }
  }

  private static void compileKeepsTheTextAlone() {
    sentence("There is no value in either case; the text stays.");
    Desk d = module("A=o;").bytes("04 01 aa").say("transcode A 0 1 = 3", "parts = 1", "compile = 0", "parts = 0");
    d.say("part 0 0 = " + NO_ELEMENT, "octet 0 0 = " + NO_ELEMENT, "buffer = 04 01 aa");
    d.say("transcode A 0 1 = 3", "parts = 1");
    d.text("B").say("compile = 81", "parts = 0", "clear = 5");
  }

  private static void putBytes() {
    sentence("Appends the lowest n bytes of bytes to the buffer, the highest of these first: true");
    long bytes = 0x0182f304b5c67788L;
    String[] rows = {"88", "77 88", "c6 77 88", "b5 c6 77 88", "04 b5 c6 77 88", "f3 04 b5 c6 77 88",
        "82 f3 04 b5 c6 77 88", "01 82 f3 04 b5 c6 77 88"};
    for (int n = 1; n <= 8; n++) {
      new Desk().say("put " + bytes + " " + n + " = true", "buffer = " + rows[n - 1]);
      new Desk().say("put 9 1", "put " + bytes + " " + n + " = true", "buffer = 09 " + rows[n - 1]);
      new Desk().say("put -1 " + n + " = true", "buffer = " + times(n, "ff "));
    }
    new Desk().say("put " + Long.MIN_VALUE + " 8 = true", "buffer = 80 00 00 00 00 00 00 00");
    new Desk().say("put " + Long.MIN_VALUE + " 7 = true", "buffer = 00 00 00 00 00 00 00");
  }

  private static void putRefused() {
    sentence("refused (false) when n is not 1 .. 8, or it would have more than 120.");
    Desk d = new Desk().say("put 5 1 = true");
    for (String n : new String[] {"0", "9", "-1", "-8", "16", "257", "least", "greatest"}) {
      d.say("put 7 " + n + " = false");
    }
    d.say("buffer = 05");
    for (int had = 112; had <= 120; had++) {
      Desk full = new Desk();
      for (int k = 0; k < 14; k++) {
        full.say("put 0 8 = true");
      }
      for (int k = 112; k < had; k++) {
        full.say("put 0 1 = true");
      }
      for (int n = 8; n > 120 - had; n--) {
        full.say("put -1 " + n + " = false", "at -1 = " + had);
      }
      if (had < 120) {
        full.say("put -1 " + (120 - had) + " = true", "at -1 = 120", "at 119 = 255", "at " + (had - 1) + " = 0");
      }
      full.say("put 1 1 = false", "put 1 8 = false", "wipe = 120", "put 1 8 = true");
    }
  }

  private static void wipeAnswers() {
    sentence("The buffer is empty. Answers how many bytes it had.");
    Desk d = module("A=b;").say("wipe = 0", "put 1 3 = true", "wipe = 3", "at -1 = 0", "at 0 = " + NO_INDEX);
    d.say("wipe = 0").bytes("01 01 ff").say("transcode A 0 1 = 3", "wipe = 3", "parts = 1");
    d.say("transcode A 0 1 = -1", "clear = 4");
  }

  private static void atItsEnds() {
    sentence("Byte k (0 .. 255) of the buffer, or for k = -1 how many there are. IndexOutOfBoundsException when "
        + "there is none.");
    Desk d = new Desk().bytes("00 7f 80 ff");
    d.say("at -1 = 4", "at 0 = 0", "at 1 = 127", "at 2 = 128", "at 3 = 255");
    d.say("at 4 = " + NO_INDEX, "at -2 = " + NO_INDEX, "at least = " + NO_INDEX, "at greatest = " + NO_INDEX);
    d.say("at 119 = " + NO_INDEX, "at 120 = " + NO_INDEX);
    Desk full = new Desk().bytes(times(120, "5a "));
    full.say("at -1 = 120", "at 119 = 90", "at 120 = " + NO_INDEX);
    // Bytes that were there once are none.
    full.bytes("01 02").say("at 1 = 2", "at 2 = " + NO_INDEX);
    Desk shorter = module("A=b;").bytes("01 82 00 01 ff").say("transcode A 0 2 = 1", "at -1 = 1", "at 0 = 128");
    shorter.say("at 1 = " + NO_INDEX);
  }

  private static void transcodeReadsAll() {
    sentence("Reads the buffer, all of it, as a value of a type by rules 0 .. 2, and replaces it with the bytes of "
        + "this by rules 1 or 2: how many");
    for (int from = 0; from <= 2; from++) {
      String bytes = from == 2 ? "80" : "01 01 ff";
      becomes("A=b;", from, bytes, 1, "01 01 ff");
      becomes("A=b;", from, bytes, 2, "80");
      none("A=b;", from, bytes + " 00", "00 " + bytes, "");
    }
    Desk d = module("A=b;B=i;").bytes("02 01 05").say("transcode A 0 1 = -1", "transcode B 0 2 = 2");
    d.say("transcode B 2 1 = 3", "buffer = 02 01 05");
    String full = "30 76 04 71" + " 5a".repeat(113) + " 02 01 05";
    becomes("A=q{o,i};", 0, full, 1, full);
    becomes("A=q{o,i};", 1, full, 2, "71" + " 5a".repeat(113) + " 01 05");
    String packed = "75" + " 5a".repeat(117) + " 01 05";
    becomes("A=q{o,i};", 2, packed, 2, packed);
  }

  private static void transcodeOfNoValue() {
    sentence("-1 when it is no value's: nothing changes.");
    Desk d = module("A=b;B=q{o};").say("operation 0 A 0 1 = done").bytes("30 03 04 01 aa").say("transcode B 0 1 = 5");
    for (int from = 0; from <= 2; from++) {
      d.bytes("30 03 04 02 aa").say("transcode B " + from + " 1 = -1", "buffer = 30 03 04 02 aa");
      d.say("value = 6/1/0/-1 4/1/0/0:170");
      // Bytes that go wrong only behind some parts.
      d.bytes("30 05 04 01 bb 00 00").say("transcode B " + from + " 2 = -1", "value = 6/1/0/-1 4/1/0/0:170");
    }
    served(d, "01 05 00 01 01 ff", "02 05 00 01 01 ff");
    d.say("compile = 0", "clear = 11");
  }

  private static void transcodeThrowsInOrder() {
    sentence("IllegalArgumentException when the rules are not as said; else IllegalStateException when there is no "
        + "module; else NoSuchElementException when it has no such name; else UnsupportedOperationException when "
        + "the bytes would be more than 120.");
    Desk d = module("B=lb;").bytes("3c aa aa aa aa aa aa aa a0");
    for (String rules : new String[] {"-1 1", "3 1", "0 0", "0 3", "2 -1", "0 -1", "least 1", "1 greatest", "3 3"}) {
      new Desk().say("transcode ? " + rules + " = " + ARGUMENT);
      d.say("transcode ? " + rules + " = " + ARGUMENT, "transcode B " + rules + " = " + ARGUMENT);
    }
    new Desk().say("transcode ? 0 1 = " + STATE, "transcode A 2 2 = " + STATE);
    for (char name : new char[] {'A', 'C', 'Z', '@', '[', 'b', 0, 'B' + 256, 65535}) {
      d.say("transcode " + name + " 2 1 = " + NO_ELEMENT, "transcode " + name + " 0 1 = " + NO_ELEMENT);
    }
    d.say("transcode B 0 1 = -1", "transcode B 2 1 = " + TOO_LONG, "transcode B 2 2 = 9", "parts = 61");
    String most = "04 76" + " 5a".repeat(118);
    becomes("A=o;", 2, "76" + " 5a".repeat(118), 1, most);
    module("A=o;").bytes("77" + " 5a".repeat(119)).say("transcode A 2 1 = " + TOO_LONG, "at -1 = 120", "parts = 0");
    becomes(WIDE_WHEN_PACKED, 1, wideStrict(22), 2, widePacked(22));
    d = module(WIDE_WHEN_PACKED).bytes(wideStrict(23));
    d.say("transcode A 1 2 = " + TOO_LONG, "buffer = " + wideStrict(23));
    d.bytes(wideStrict(22)).say("transcode A 1 2 = 120");
    d = module("A=o;").bytes("77" + " 5a".repeat(119)).say("transcode A 2 1 = " + TOO_LONG);
    d.bytes("00").say("transcode A 2 1 = 2", "buffer = 04 00");
  }

  private static void partsOfTheLatest() {
    sentence("How many parts the value has that was read latest by transcode (when this answered a number of "
        + "bytes) or serve (when it answered 2); 0 without one.");
    Desk d = module("A=lb;B=n;C=o;").say("parts = 0", "operation 0 A 2 1 = done", "operation 1 C 2 1 = done");
    d.bytes("05 00").say("transcode B 0 1 = 2", "parts = 1");
    d.bytes("03 a0").say("transcode A 2 1 = 11", "parts = 4").bytes("03 a1").say("transcode A 2 1 = -1", "parts = 4");
    d.bytes("3c" + " 00".repeat(8)).say("transcode A 2 1 = " + TOO_LONG, "parts = 4");
    served(d, "01 01 00 01 80", "02 01 00 30 03 01 01 ff");
    d.say("parts = 2");
    served(d, "01 02 00 01 81", "03 02");
    d.say("parts = 2");
    served(d, "01 01 00 00", "04 01 03");
    served(d, "01 03 05 00", "04 03 02");
    served(d, "01", "04 00 01");
    d.say("parts = 2");
    served(d, "01 04 00 3c" + " 00".repeat(8), "04 04 04");
    d.say("parts = 2").bytes("00").say("transcode A 2 2 = 1", "parts = 1", "wipe = 1", "parts = 1");
    d.say("compile = 0", "parts = 0");
  }

  private static void partsInTheirOrder() {
    sentence("Of part k (0 the value itself; then, of each part, those in it with all in these, in their order)");
    String strict = "30 16 30 05 01 01 ff 05 00 30 0a 30 03 02 01 05 30 03 02 01 06 01 01 00";
    String parts = "6/3/0/-1 6/2/0/0 1/1/0/1 5/0/1/1 7/2/1/0 6/1/0/4 2/5/0/5 6/1/1/4 2/6/0/7 1/0/2/0";
    valueOf("A=q{q{b,n},l(0,3)q{i},b};", 1, strict, parts);
    valueOf("A=q{q{b,n},l(0,3)q{i},b};", 0, strict, parts);
    valueOf("A=q{q{b,n},l(0,3)q{i},b};", 2, "c0 01 05 01 06 00", parts);
  }

  private static void partKinds() {
    sentence("what = 0 its kind: 1 b, 2 i, 4 o, 5 n, 6 q, 7 l, 9 c");
    valueOf("A=b;", 0, "01 01 ff", "1/1/0/-1");
    valueOf("A=[1!]i;", 0, "81 01 fe", "2/-2/0/-1");
    valueOf("A=[1]o;", 0, "a1 04 04 02 00 ff", "4/2/0/-1:0.255");
    valueOf("A=n;", 0, "05 00", "5/0/0/-1");
    valueOf("A=q{};", 0, "30 00", "6/0/0/-1");
    valueOf("A=lb;", 0, "30 00", "7/0/0/-1");
    valueOf("A=c{n};", 0, "05 00", "9/0/0/-1 5/0/0/0");
  }

  private static void partNumbers() {
    sentence("1 its number (b: 0, 1), or how many bytes, components that are there, or items it has, or which "
        + "alternative, as in the text (from 0) (n: 0)");
    valueOf("A=b;", 0, "01 01 80", "1/1/0/-1");
    valueOf("A=i;", 0, "02 04 80 00 00 00", "2/-2147483648/0/-1");
    valueOf("A=q{b?,i?,n?,[0]b=0};", 0, "30 03 02 01 05", "6/2/0/-1 2/5/1/0 1/0/3/0");
    valueOf("A=q{b?,i?};", 0, "30 00", "6/0/0/-1");
    valueOf("A=ln;", 0, "30 06 05 00 05 00 05 00", "7/3/0/-1 5/0/0/0 5/0/1/0 5/0/2/0");
    valueOf("A=c{q{},n,b};", 0, "30 00", "9/0/0/-1 6/0/0/0");
    valueOf("A=c{q{},n,b};", 0, "05 00", "9/1/0/-1 5/0/0/0");
    valueOf("A=c{q{},n,b};", 2, "20", "9/2/0/-1 1/1/0/0");
  }

  private static void partPlaces() {
    sentence("2 which component (as in the text, from 0), item (from 0) it is of the part that it is in (of what "
        + "is in a choice always 0; 0 for the value itself), 3 which part that is (NONE for the value itself).");
    valueOf("A=q{b?,n?,c{o,i,[0!]c{n,b}},l(1,2)n};", 0, "30 09 a0 03 01 01 ff 30 02 05 00",
        "6/2/0/-1 9/2/2/0 9/1/0/1 1/1/0/2 7/1/3/0 5/0/0/4");
    valueOf("A=lc{n,lb};", 0, "30 07 05 00 30 03 01 01 ff", "7/2/0/-1 9/0/0/0 5/0/0/1 9/1/1/0 7/1/0/3 1/1/0/4");
    module("A=n;").bytes("05 00").say("transcode A 0 1 = 2", "part 0 3 = " + NotationDesk.NONE, "part 0 3 = -1");
  }

  private static void partThrows() {
    sentence("IllegalArgumentException when what is none of these; else NoSuchElementException when there is no "
        + "such part.");
    Desk d = module("A=lb;").bytes("30 03 01 01 ff").say("transcode A 0 1 = 5");
    for (String what : new String[] {"-1", "4", "least", "greatest"}) {
      d.say("part 0 " + what + " = " + ARGUMENT, "part 2 " + what + " = " + ARGUMENT);
      d.say("part -1 " + what + " = " + ARGUMENT);
      new Desk().say("part 0 " + what + " = " + ARGUMENT);
    }
    for (int what = 0; what <= 3; what++) {
      for (String k : new String[] {"2", "-1", "99", "100", "least", "greatest"}) {
        d.say("part " + k + " " + what + " = " + NO_ELEMENT);
      }
      new Desk().say("part 0 " + what + " = " + NO_ELEMENT);
    }
    d.say("part 1 1 = 1", "part 0 0 = 7");
    // Parts of an older value are none.
    d.bytes("30 00").say("transcode A 0 1 = 2", "part 0 1 = 0", "part 1 0 = " + NO_ELEMENT);
  }

  private static void octets() {
    sentence("Byte i (0 .. 255) of part k, an o. NoSuchElementException when there is none.");
    Desk d = module("A=q{o,b,[0]o,[1!]o?,n,i};").bytes("30 12 04 02 00 ff 01 01 ff a0 04 04 02 7f 80 05 00 02 01 05");
    d.say("octet 0 0 = " + NO_ELEMENT, "transcode A 0 2", "octet 1 0 = 0", "octet 1 1 = 255", "octet 3 0 = 127");
    d.say("octet 3 1 = 128");
    for (String none : new String[] {"1 2", "1 -1", "3 2", "3 -1", "0 0", "2 0", "4 0", "5 0", "6 0", "-1 0", "1 least",
        "1 greatest", "least 0", "greatest 0", "least least", "1 120", "5 4"}) {
      d.say("octet " + none + " = " + NO_ELEMENT);
    }
    d.say("wipe", "octet 1 1 = 255", "compile = 0", "octet 1 1 = " + NO_ELEMENT);
    Desk full = module("A=o;").bytes("77" + " 5a".repeat(118) + " a5").say("transcode A 2 2 = 120");
    full.say("octet 0 118 = 165", "octet 0 119 = " + NO_ELEMENT, "octet 0 120 = " + NO_ELEMENT);
    full.say("octet 1 0 = " + NO_ELEMENT);
    full.bytes("77" + " 5a".repeat(118) + " a6").say("transcode A 2 2 = 120", "octet 0 118 = 166");
    full.bytes("00").say("transcode A 2 1 = 2", "octet 0 0 = " + NO_ELEMENT);
  }

  private static void operationReplaces() {
    sentence("Operation k is for a type, with rules for the argument (0 .. 2) and the answer (1, 2), in place of "
        + "what it was.");
    int id = 1;
    Desk d = module("A=b;B=n;").bytes("01 01 ff").say("transcode A 0 1 = 3");
    for (int from = 0; from <= 2; from++) {
      for (int to = 1; to <= 2; to++) {
        String head = String.format(" %02x 07 ", id);
        d.say("operation 7 A " + from + " " + to + " = done");
        served(d, "01" + head + (from == 2 ? "80" : "01 01 ff"), "02" + head + (to == 2 ? "80" : "01 01 ff"));
        served(d, String.format("01 %02x 07 05 00", id + 1), String.format("03 %02x", id + 1));
        id += 2;
      }
    }
    d.say("operation 7 B 0 1 = done", "parts = 1", "buffer = 03 0c");
    served(d, "01 20 07 05 00", "02 20 07 05 00");
    served(d, "01 21 06 05 00", "04 21 02");
  }

  private static void operationThrowsInOrder() {
    sentence("IllegalArgumentException when k is not 0 .. 7, or rules are not as said; else IllegalStateException "
        + "when there is no module; else NoSuchElementException when it has no such name.");
    Desk d = module("B=b;").say("operation 0 B 0 1 = done", "operation 7 B 2 2 = done");
    for (String k : new String[] {"-1", "8", "least", "greatest"}) {
      new Desk().say("operation " + k + " ? 0 1 = " + ARGUMENT);
      d.say("operation " + k + " ? 0 1 = " + ARGUMENT, "operation " + k + " B 0 1 = " + ARGUMENT);
    }
    for (String rules : new String[] {"-1 1", "3 1", "0 0", "0 3", "2 -1", "least 1", "1 greatest"}) {
      new Desk().say("operation 0 ? " + rules + " = " + ARGUMENT);
      d.say("operation 7 ? " + rules + " = " + ARGUMENT, "operation 0 B " + rules + " = " + ARGUMENT);
    }
    new Desk().say("operation 0 ? 0 1 = " + STATE, "operation 7 A 2 2 = " + STATE);
    for (char name : new char[] {'A', 'C', '@', '[', 'b', 0, 'B' + 256, 65535}) {
      d.say("operation 0 " + name + " 0 1 = " + NO_ELEMENT);
    }
  }

  private static void serveReplaces() {
    sentence("Serves the buffer as a message; it becomes the reply. Answers its first byte. IllegalStateException "
        + "when there is no module.");
    Desk d = server();
    served(d, "01 01 00 01 01 ff", "02 01 00 80");
    d.say("serve = 4", "buffer = 04 01 01", "serve = 4", "buffer = 04 01 01");
    served(d, "01 02 00 05 00", "03 02");
    d.say("serve = 4", "buffer = 04 02 01");
    new Desk().bytes("01 01 00").say("serve = " + STATE, "buffer = 01 01 00");
    new Desk().say("serve = " + STATE, "compile = 1", "serve = " + STATE);
    d.say("clear = 13", "serve = " + STATE, "buffer = 04 02 01");
  }

  public static void main(String[] args) {
    calls512();
    noBlanks();
    oneOrMoreDefinitions();
    definitionsAreWhole();
    tagsAreWhole();
    boundsWhereTheyCanBe();
    zeroToSixComponents();
    itemsBehindAList();
    oneToSixAlternatives();
    namesStandForTypes();
    componentsEnd();
    oneToFiveDigits();
    boundsInTheirOrder();
    rangeOf65536Numbers();
    sizeOfZeroToTwenty();
    implicitReplacesTheOutermostTag();
    implicitTagOfAChoice();
    tagsThatTypesBeginWith();
    firstFault();
    placesOfFaults();
    fault1();
    fault2();
    fault3();
    fault4OfBounds();
    fault4OfADefault();
    sixthDigitOfADefault();
    fault5();
    deepestTypes();
    fault5AtAName();
    fault6OfAChoice();
    fault6OfASequence();
    fault7();
    hundredParts();
    lastPartOfEachKind();
    defaultsAreAlwaysThere();
    tagBytes();
    explicitTagBytes();
    implicitTagBytes();
    oneAlternative();
    lengthsOfOneByte();
    longLengths();
    lengthOf128();
    booleanContent();
    integerContent();
    nineBits();
    withinTheRange();
    octetsAndNullContent();
    componentsInTheirOrder();
    itemsOfAList();
    numbersAsTheSizeSays();
    strictLengths();
    strictTrue();
    strictDefaults();
    toAlign();
    justOneNumber();
    upTo255Numbers();
    moreNumbers();
    packedBooleansAndNumbers();
    packedIntegers();
    packedNulls();
    packedOctets();
    packedItems();
    packedWithoutSize();
    alignedAlready();
    bitsOfASequence();
    numberOfAnAlternative();
    packedEnd();
    noOtherPackedBytes();
    eightOperations();
    messagesThatAreNone();
    noSuchOperation();
    servedBefore();
    eachIdIsItsOwn();
    noValuesBytes();
    longReplies();
    answers();
    throwingChangesNothing();
    newObject();
    typeOfAnyCode();
    typeEndsTheModule();
    typeOfThe151st();
    clearAnswers();
    compileMakesAModule();
    compileOfAFault();
    compileKeepsTheTextAlone();
    putBytes();
    putRefused();
    wipeAnswers();
    atItsEnds();
    transcodeReadsAll();
    transcodeOfNoValue();
    transcodeThrowsInOrder();
    partsOfTheLatest();
    partsInTheirOrder();
    partKinds();
    partNumbers();
    partPlaces();
    partThrows();
    octets();
    operationReplaces();
    operationThrowsInOrder();
    serveReplaces();
    System.out.println(wrong == 0 ? "all boundaries are as due" : wrong + " answers are not as due");
    if (wrong != 0) {
      System.exit(1);
    }
  }
}
