import java.util.NoSuchElementException;

/** The promises of the document, one by one: ordinary inputs, the edges it names, and wrong inputs. */
public final class NotationDeskPromises {
  private static int wrong = 0;

  private static void due(String call, String got, String want) {
    if (!got.equals(want)) {
      wrong++;
      System.out.println(call + " answered " + got + ", due is " + want);
    }
  }

  private static void due(String call, int got, int want) {
    due(call, String.valueOf(got), String.valueOf(want));
  }

  private static void due(String call, boolean got, boolean want) {
    due(call, String.valueOf(got), String.valueOf(want));
  }

  // ---- short ways to use a desk; an exception is told by its name

  private static void typeAll(NotationDesk d, String text) {
    for (int i = 0; i < text.length(); i++) {
      due("type " + text.charAt(i), d.type(text.charAt(i)), true);
    }
  }

  private static NotationDesk desk(String text) {
    NotationDesk d = new NotationDesk();
    typeAll(d, text);
    due("compile " + text, d.compile(), 0);
    return d;
  }

  private static void putAll(NotationDesk d, String hex) {
    d.wipe();
    String digits = hex.replace(" ", "");
    for (int i = 0; i < digits.length(); i += 16) {
      String some = digits.substring(i, Math.min(i + 16, digits.length()));
      due("put", d.put(Long.parseUnsignedLong(some, 16), some.length() / 2), true);
    }
  }

  private static String bytes(NotationDesk d) {
    StringBuilder s = new StringBuilder();
    int count = d.at(-1);
    for (int i = 0; i < count; i++) {
      s.append(i == 0 ? "" : " ").append(String.format("%02x", d.at(i)));
    }
    return s.toString();
  }

  private static String at(NotationDesk d, int k) {
    try {
      return String.valueOf(d.at(k));
    } catch (RuntimeException e) {
      return e.getClass().getSimpleName();
    }
  }

  private static String transcode(NotationDesk d, char name, int from, int to) {
    try {
      return String.valueOf(d.transcode(name, from, to));
    } catch (RuntimeException e) {
      return e.getClass().getSimpleName();
    }
  }

  private static String part(NotationDesk d, int k, int what) {
    try {
      return String.valueOf(d.part(k, what));
    } catch (RuntimeException e) {
      return e.getClass().getSimpleName();
    }
  }

  private static String octet(NotationDesk d, int k, int i) {
    try {
      return String.valueOf(d.octet(k, i));
    } catch (RuntimeException e) {
      return e.getClass().getSimpleName();
    }
  }

  private static String operation(NotationDesk d, int k, char name, int from, int to) {
    try {
      d.operation(k, name, from, to);
      return "done";
    } catch (RuntimeException e) {
      return e.getClass().getSimpleName();
    }
  }

  private static String serve(NotationDesk d) {
    try {
      return String.valueOf(d.serve());
    } catch (RuntimeException e) {
      return e.getClass().getSimpleName();
    }
  }

  private static String allParts(NotationDesk d) {
    StringBuilder s = new StringBuilder();
    int count = d.parts();
    for (int k = 0; k < count; k++) {
      s.append(k == 0 ? "" : " ").append(d.part(k, 0)).append('/').append(d.part(k, 1));
      s.append('/').append(d.part(k, 2)).append('/').append(d.part(k, 3));
    }
    return s.toString();
  }

  private static void fault(String text, int code, int place) {
    NotationDesk d = new NotationDesk();
    typeAll(d, text);
    due("compile " + text, d.compile(), code + 16 * place);
    due("a module of " + text, transcode(d, 'Z', 0, 1), "IllegalStateException");
  }

  private static void fine(String text) {
    due("a module of " + text, transcode(desk(text), '?', 0, 1), "NoSuchElementException");
  }

  /** The bytes are those of a value, which becomes these others. */
  private static void becomes(String text, int from, String bytes, int to, String others) {
    NotationDesk d = desk(text);
    putAll(d, bytes);
    String call = "transcode of " + text + " " + bytes + " by " + from + " to " + to;
    due(call, transcode(d, 'A', from, to), String.valueOf((others.length() + 1) / 3));
    due(call, bytes(d), others);
  }

  private static void noValue(String text, int from, String bytes) {
    for (int to = 1; to <= 2; to++) {
      NotationDesk d = desk(text);
      putAll(d, bytes);
      String before = bytes(d);
      due("transcode of " + text + " " + bytes + " by " + from, transcode(d, 'A', from, to), "-1");
      due("bytes behind it", bytes(d), before);
      due("parts behind it", d.parts(), 0);
    }
  }

  /** Strict and packed bytes of one value, each read by its rules and made into the other. */
  private static void same(String text, String strict, String packed) {
    becomes(text, 0, strict, 1, strict);
    becomes(text, 1, strict, 1, strict);
    becomes(text, 1, strict, 2, packed);
    becomes(text, 2, packed, 1, strict);
    becomes(text, 2, packed, 2, packed);
  }

  private static String times(int n, String s) {
    return s.repeat(n).trim();
  }

  // ---- the promises

  private static void newObject() {
    NotationDesk d = new NotationDesk();
    due("NONE", NotationDesk.NONE, -1);
    due("new: at(-1)", d.at(-1), 0);
    due("new: at(0)", at(d, 0), "IndexOutOfBoundsException");
    due("new: parts()", d.parts(), 0);
    due("new: part(0, 0)", part(d, 0, 0), "NoSuchElementException");
    due("new: transcode", transcode(d, 'A', 0, 1), "IllegalStateException");
    due("new: operation", operation(d, 0, 'A', 0, 1), "IllegalStateException");
    due("new: serve", serve(d), "IllegalStateException");
    due("new: wipe()", d.wipe(), 0);
    due("new: clear()", d.clear(), 0);
    due("new: compile()", d.compile(), 1);
  }

  private static void type() {
    NotationDesk d = desk("A=b;");
    putAll(d, "01 01 ff");
    due("transcode", transcode(d, 'A', 0, 1), "3");
    due("type", d.type('B'), true);
    due("bytes behind type", bytes(d), "01 01 ff");
    due("parts behind type", d.parts(), 0);
    due("transcode behind type", transcode(d, 'A', 0, 1), "IllegalStateException");
    due("operation behind type", operation(d, 0, 'A', 0, 1), "IllegalStateException");
    due("serve behind type", serve(d), "IllegalStateException");
    due("compile", d.compile(), 1 + 16 * 5);
    typeAll(d, "=n;");
    due("compile", d.compile(), 0);

    NotationDesk any = new NotationDesk();
    for (char c : new char[] {0, 255, 256, 65535, 'A' + 256}) {
      due("type of any code", any.type(c), true);
    }
    due("compile", any.compile(), 1);
    due("clear", any.clear(), 5);
    due("type", any.type((char) ('A' + 256)), true);
    due("compile", any.compile(), 1);

    // A refused character leaves the module, its operations and the value.
    NotationDesk full = desk(fullText());
    due("operation", operation(full, 0, 'A', 0, 1), "done");
    putAll(full, "01 01 ff");
    due("transcode", transcode(full, 'A', 0, 1), "3");
    due("type the 151st", full.type('B'), false);
    due("parts", full.parts(), 1);
    putAll(full, "01 01 00 01 01 00");
    due("serve", serve(full), "2");
    due("clear", full.clear(), 150);
  }

  /** A module of 150 characters. */
  private static String fullText() {
    StringBuilder s = new StringBuilder("A=b;");
    for (char name = 'B'; name <= 'M'; name++) {
      s.append(name).append("=q{b?,i?};");
    }
    return s.append("Z=q{b?,i?,n?};").toString();
  }

  private static void clear() {
    NotationDesk d = desk("A=b;");
    due("operation", operation(d, 0, 'A', 0, 1), "done");
    putAll(d, "01 01 ff");
    due("transcode", transcode(d, 'A', 0, 1), "3");
    due("clear", d.clear(), 4);
    due("parts behind clear", d.parts(), 0);
    due("bytes behind clear", bytes(d), "01 01 ff");
    due("transcode behind clear", transcode(d, 'A', 0, 1), "IllegalStateException");
    due("serve behind clear", serve(d), "IllegalStateException");
    due("clear again", d.clear(), 0);
    due("compile", d.compile(), 1);
    typeAll(d, "B=n;");
    due("compile", d.compile(), 0);
    due("an older name", transcode(d, 'A', 0, 1), "NoSuchElementException");
  }

  private static void compile() {
    NotationDesk d = desk("A=b;");
    due("operation", operation(d, 0, 'A', 0, 1), "done");
    putAll(d, "01 07 00 01 01 00");
    due("serve", serve(d), "2");
    due("parts", d.parts(), 1);
    due("compile again", d.compile(), 0);
    due("parts behind compile", d.parts(), 0);
    putAll(d, "01 07 00 01 01 00");
    due("serve without operations", serve(d), "4");
    due("reply", bytes(d), "04 07 02");
    due("operation", operation(d, 0, 'A', 0, 1), "done");
    putAll(d, "01 07 00 01 01 00");
    due("serve: no ID was served", serve(d), "2");
    due("the text stays", d.clear(), 4);

    typeAll(d, "A=b;B");
    due("compile", d.compile(), 1 + 16 * 5);
    due("transcode without a module", transcode(d, 'A', 0, 1), "IllegalStateException");
    due("the text stays", d.clear(), 5);
  }

  /** Nothing of an older module is left in a newer one. */
  private static void compileAnother() {
    String[][] rows = {
      // the older text, the newer one, bytes, their rules, what becomes of them by rules 2
      {"A=i(0,3);", "A=i;", "02 01 64", "0", "01 64"},
      {"A=i;", "A=i(0,3);", "02 01 64", "0", "-1"},
      {"A=q{b?};", "A=q{b};", "30 00", "0", "-1"},
      {"A=q{b=1};", "A=q{b};", "30 03 01 01 ff", "1", "80"},
      {"A=q{b,b};", "A=q{};", "30 00", "0", "00"},
      {"A=q{b,b};", "A=q{b};", "30 03 01 01 ff", "1", "80"},
      {"A=c{i,b};", "A=c{i,b};", "02 01 05", "0", "80 01 05"},
      {"A=c{i,b};", "A=c{i,b};", "80 01 05", "2", "80 01 05"},
      {"A=c{b,i,n,o,q{}};", "A=c{b,i};", "02 01 05", "0", "80 01 05"},
      {"A=c{n,b};", "A=q{n,b};", "30 05 05 00 01 01 ff", "0", "80"},
      {"A=lllb;", "A=b;B=lllllA;", "01 01 ff", "0", "80"},
      {"A=[1]b;", "A=[2!]b;", "82 01 ff", "0", "80"},
      {"A=[1]c{b};", "A=[2!]c{b};", "a2 03 01 01 ff", "0", "80"},
    };
    for (String[] row : rows) {
      NotationDesk d = desk(row[0]);
      due("clear", d.clear(), row[0].length());
      typeAll(d, row[1]);
      for (int n = 0; n < 2; n++) {
        due("compile " + row[1] + " behind " + row[0], d.compile(), 0);
      }
      putAll(d, row[2]);
      String answer = transcode(d, 'A', Integer.parseInt(row[3]), 2);
      due(row[1] + " behind " + row[0], answer.equals("-1") ? answer : bytes(d), row[4]);
    }
    NotationDesk often = desk(fullText());
    for (int n = 0; n < 300; n++) {
      due("compile once more", often.compile(), 0);
    }
  }

  private static void charactersAtFault() {
    fault("", 1, 0);
    fault("a", 1, 0);
    fault("A", 1, 1);
    fault("Ab", 1, 1);
    fault("A=", 1, 2);
    fault("A=x;", 1, 2);
    fault("A=b", 1, 3);
    fault("A=b,", 1, 3);
    fault("A=b; B=n;", 1, 4);
    fault("A=b;;", 1, 4);
    fault("A=b(0,1);", 1, 3);
    fault("A=n?;", 1, 3);
    fault("A=b;B=A(0,1);", 1, 7);
    fault("A=[;", 1, 3);
    fault("A=[B=b;", 1, 3);
    fault("A=[10]b;", 1, 4);
    fault("A=[1!!]b;", 1, 5);
    fault("A=[!1]b;", 1, 3);
    fault("A=[1];", 1, 5);
    fault("A=[1", 1, 4);
    fault("A=q;", 1, 3);
    fault("A=q{", 1, 4);
    fault("A=q{,};", 1, 4);
    fault("A=q{b,};", 1, 6);
    fault("A=q{b?=1};", 1, 6);
    fault("A=q{b=1?};", 1, 7);
    fault("A=q{b=};", 1, 6);
    fault("A=q{b=-};", 1, 7);
    fault("A=q{b;", 1, 5);
    fault("A=c{};", 1, 4);
    fault("A=c{b?};", 1, 5);
    fault("A=c{b=1};", 1, 5);
    fault("A=l;", 1, 3);
    fault("A=l(0,1);", 1, 8);
    fault("A=i(B=b;", 1, 4);
    fault("A=q{i(?,x};", 1, 6);
    fault("A=q{i(1?,x};", 1, 7);
    fault("A=q{q,x};", 1, 5);
    fault("A=q{q{b=1?,x}};", 1, 9);
    fault("A=q{b=,x};", 1, 6);
    fault("A=i();", 1, 4);
    fault("A=i(1);", 1, 5);
    fault("A=i(1,);", 1, 6);
    fault("A=i(1,2;", 1, 7);
    fault("A=i(1,2,3);", 1, 7);
    fault("A=i(--1,2);", 1, 5);
    fault("A=i(+1,2);", 1, 4);
    fault("A=i(000001,2);", 1, 9);
    fault("A=i(1,-100000);", 1, 12);
    fine("A=i(007,00099);");
    fine("A=i(-0,0);");
    fine("A=q{};");
    fine("A=ll(0,0)[1]q{};");
    fine("A=[0][1!][2]b;Z=[9!]A;");
  }

  private static void otherFaults() {
    fault("A=b;A=b;", 2, 4);
    fault("A=b;A", 2, 4);
    fault("A=b;B=n;A=x", 2, 8);
    fault("A=A;", 3, 2);
    fault("A=q{b,B};B=b;", 3, 6);
    fault("A=llllllB;", 3, 8);

    fault("A=i(1,0);", 4, 7);
    fault("A=i(-1,-2);", 4, 9);
    fine("A=i(5,5);");
    fine("A=i(0,65535);");
    fault("A=i(0,65536);", 4, 11);
    fine("A=i(-32768,32767);");
    fault("A=i(-32769,32767);", 4, 16);
    fine("A=o(0,20);");
    fault("A=o(0,21);", 4, 8);
    fault("A=l(-1,2)b;", 4, 8);
    fault("A=l(3,2)b;", 4, 7);
    fine("A=l(20,20)b;");
    fine("A=q{b=0,i=1};");
    fine("A=q{b=-0,i(5,9)=00009};");
    fault("A=q{b=2};", 4, 6);
    fault("A=q{b=-1};", 4, 7);
    fault("A=q{i(5,9)=10};", 4, 12);
    fault("A=q{i(5,9)=4", 4, 11);
    fine("A=q{i=-99999};");
    fault("A=q{n=0};", 4, 6);
    fault("A=q{o=0};", 4, 6);
    fault("A=q{lb=0};", 4, 7);
    fault("A=q{q{}=0};", 4, 8);
    fault("A=q{c{b}=0};", 4, 9);
    fault("A=q{o=12345x", 4, 10);
    fault("A=q{o=123456};", 1, 11);
    fine("A=i(1,3);B=[1!]A;C=q{[2]B=3};");
    fault("A=i(1,3);B=[1!]A;C=q{[2]B=4};", 4, 26);

    fine("A=lllllb;");
    fault("A=llllllb;", 5, 8);
    fine("A=llllb;B=lA;");
    fault("A=lllllb;B=lA;", 5, 12);
    fine("A=lllllq{};");
    fault("A=lllllq{b};", 5, 9);
    fault("A=llllllx;", 1, 8);
    fine("A=[1][2!][3][4][5]b;");
    fault("A=[1][2!][3][4][5][6]b;", 5, 21);
    fault("A=[1][2][3][4][5][6][7][8]b;", 5, 26);
    fault("A=llllll[1", 1, 10);
    fault("A=q{c{[1]llb,[2]lllb}};", 5, 19);
    fine("A=[1]b;B=llllA;");
    fault("A=[1]b;B=lllllA;", 5, 14);
    fine("A=q{b};B=llllA;");
    fault("A=q{b};B=[0]llllA;", 5, 16);
    fine("A=q{};B=lllllA;");
    fault("A=q{};B=llllllA;", 5, 14);

    fault("A=c{b,b};", 6, 7);
    fault("A=c{q{},lb};", 6, 10);
    fault("A=c{[1]b,[1!]i};", 6, 14);
    fault("A=c{b,c{i,b}};", 6, 12);
    fault("A=c{b,i};B=c{[0]b,A,i};", 6, 21);
    fine("A=c{b,i};B=c{[0]b,[1!]A,i};");
    fault("A=q{b?,b};", 6, 8);
    fault("A=q{b=0,i?,b};", 6, 12);
    fine("A=q{b=0,i,b};");
    fine("A=q{b,b,b};");
    fine("A=q{b,b?};");
    fault("A=q{c{b,i}?,o?,i?};", 6, 17);
    fault("A=q{b?,b;", 1, 8);

    fault("A=q{b,b,b,b,b,b,b};", 7, 15);
    fault("A=q{b,b,b,b,b,b,", 7, 15);
    fault("A=c{b,i,o,n,lb,[0]b,b};", 7, 19);
    fine("A=q{b,b,b,b,b,b};");
  }

  private static void putAndWipe() {
    NotationDesk d = new NotationDesk();
    due("put", d.put(0x1122334455667788L, 8), true);
    due("put", d.put(0xaabbccL, 2), true);
    due("put", d.put(-1L, 1), true);
    due("bytes", bytes(d), "11 22 33 44 55 66 77 88 bb cc ff");
    due("put of 0", d.put(1, 0), false);
    due("put of 9", d.put(1, 9), false);
    due("put of -1", d.put(1, -1), false);
    due("put of the least int", d.put(1, Integer.MIN_VALUE), false);
    due("put of the greatest int", d.put(1, Integer.MAX_VALUE), false);
    due("wipe", d.wipe(), 11);
    due("wipe again", d.wipe(), 0);
    for (int i = 0; i < 14; i++) {
      due("put", d.put(i, 8), true);
    }
    due("put", d.put(5, 7), true);
    due("put beyond 120", d.put(0x0101, 2), false);
    due("at(-1)", d.at(-1), 119);
    due("put up to 120", d.put(0x0102, 1), true);
    due("put beyond 120", d.put(1, 1), false);
    due("at(119)", d.at(119), 2);
    due("wipe", d.wipe(), 120);
    due("at(0)", at(d, 0), "IndexOutOfBoundsException");

    NotationDesk v = desk("A=b;");
    putAll(v, "01 01 ff");
    due("transcode", transcode(v, 'A', 0, 1), "3");
    due("put", v.put(1, 1), true);
    due("wipe", v.wipe(), 4);
    due("parts behind put and wipe", v.parts(), 1);
    due("module behind put and wipe", transcode(v, 'A', 0, 1), "-1");
  }

  private static void at() {
    NotationDesk d = new NotationDesk();
    due("put", d.put(0xff0080, 3), true);
    due("at(-1)", at(d, -1), "3");
    due("at(0)", at(d, 0), "255");
    due("at(2)", at(d, 2), "128");
    due("at(3)", at(d, 3), "IndexOutOfBoundsException");
    due("at(-2)", at(d, -2), "IndexOutOfBoundsException");
    due("at(least)", at(d, Integer.MIN_VALUE), "IndexOutOfBoundsException");
    due("at(greatest)", at(d, Integer.MAX_VALUE), "IndexOutOfBoundsException");
    due("bytes", bytes(d), "ff 00 80");
  }

  private static void transcodeArguments() {
    NotationDesk none = new NotationDesk();
    NotationDesk d = desk("B=b;");
    putAll(d, "01 01 05");
    int[][] wrongRules = {{-1, 1}, {3, 1}, {0, 0}, {0, 3}, {2, -1}, {Integer.MAX_VALUE, Integer.MIN_VALUE}};
    for (int[] rules : wrongRules) {
      due("rules first", transcode(none, '?', rules[0], rules[1]), "IllegalArgumentException");
      due("rules first", transcode(d, '?', rules[0], rules[1]), "IllegalArgumentException");
    }
    due("module then", transcode(none, '?', 0, 1), "IllegalStateException");
    for (char name : new char[] {'A', 'C', '@', '[', 'b', 0, 65535, 'B' + 256}) {
      due("name then", transcode(d, name, 0, 1), "NoSuchElementException");
    }
    due("bytes", bytes(d), "01 01 05");
    due("no strict value", transcode(d, 'B', 1, 1), "-1");
    due("transcode", transcode(d, 'B', 0, 1), "3");
    due("bytes", bytes(d), "01 01 ff");
  }

  private static void transcodeTooLong() {
    // 60 items are 4 bytes each by the strict rules, a bit each by the packed ones.
    NotationDesk d = desk("A=l[1]b;B=b;");
    putAll(d, "01 01 00");
    due("transcode", transcode(d, 'B', 1, 1), "3");
    String packed = "3c aa aa aa aa aa aa aa a0";
    putAll(d, packed);
    due("too long", transcode(d, 'A', 2, 1), "UnsupportedOperationException");
    due("bytes", bytes(d), packed);
    due("the older value", allParts(d), "1/0/0/-1");
    due("fits", transcode(d, 'A', 2, 2), "9");
    due("parts", d.parts(), 61);

    // Exactly 120 bytes: 2, and 118 of an o; one more does not fit.
    NotationDesk edge = desk("A=q{o,i(1,1)?};B=o;");
    putAll(edge, "76" + " ab".repeat(118));
    due("120 bytes", transcode(edge, 'B', 2, 1), "120");
    due("first", edge.at(0), 4);
    due("length", edge.at(1), 118);
    due("read again", transcode(edge, 'B', 1, 2), "119");
    putAll(edge, "77" + " ab".repeat(119));
    due("121 bytes", transcode(edge, 'B', 2, 1), "UnsupportedOperationException");
    due("itself", transcode(edge, 'B', 2, 2), "120");
    putAll(edge, "80 72" + " ab".repeat(114));
    due("121 bytes", transcode(edge, 'A', 2, 1), "UnsupportedOperationException");
    putAll(edge, "80 71" + " ab".repeat(113));
    due("120 bytes", transcode(edge, 'A', 2, 1), "120");
    putAll(edge, "00 74" + " ab".repeat(116));
    due("120 bytes", transcode(edge, 'A', 2, 1), "120");
  }

  private static void transcodeTooLongPacked() {
    // 24 items of three bytes, which are two bytes of choices and two of a number by the packed rules.
    NotationDesk d = desk("A=q{o,lc{c{c{i(0,65535),b,o,n,q{}},[0]b,[1]b,[2]b,[3]b},[4]b,[5]b,[6]b,[7]b}};");
    String strict = "30 76 04 2a " + "07 ".repeat(42) + "30 48 " + times(24, "02 01 09 ");
    putAll(d, strict);
    due("140 bytes", transcode(d, 'A', 1, 2), "UnsupportedOperationException");
    due("bytes", bytes(d), strict);
    due("parts", d.parts(), 0);
    putAll(d, "30 07 04 00 30 03 02 01 09");
    due("6 bytes", transcode(d, 'A', 1, 2), "6");
    due("bytes", bytes(d), "00 01 00 80 00 09");
    due("parts", allParts(d), "6/2/0/-1 4/0/0/0 7/1/1/0 9/0/0/2 9/0/0/3 9/0/0/4 2/9/0/5");
  }

  /** What stood in the buffer before its bytes were wiped, or behind its last byte, is never read. */
  private static void bytesBeyond() {
    NotationDesk d = desk("A=c{n,q{},i,o,[0]lb};B=q{b,i(0,255),o};");
    String[] rows = {"05 00", "30 80 00 00", "02 01 05", "04 02 01 02", "a0 80 30 80 00 00 00 00"};
    for (String row : rows) {
      for (int end = 2; end < row.length(); end += 3) {
        putAll(d, row);
        putAll(d, row.substring(0, end));
        due("a part of " + row, transcode(d, 'A', 0, 1), "-1");
      }
    }
    NotationDesk full = desk("A=o;B=lo;C=q{b,lb};D=li;");
    putAll(full, "04 7f" + " 00".repeat(118));
    due("more than there are", transcode(full, 'A', 0, 1), "-1");
    putAll(full, "04 82 ff ff" + " 00".repeat(116));
    due("more than there are", transcode(full, 'A', 0, 1), "-1");
    putAll(full, "30 76 04 75" + " 00".repeat(116));
    due("more than there are", transcode(full, 'B', 0, 1), "-1");
    putAll(full, "78" + " 00".repeat(119));
    due("more than there are", transcode(full, 'A', 2, 1), "-1");
    putAll(full, "3c" + " 01 00".repeat(59) + " 01");
    due("more than there are", transcode(full, 'D', 2, 1), "-1");
    putAll(full, "30 76 " + times(59, "04 00 "));
    due("as many as there are", transcode(full, 'B', 0, 2), "60");
  }

  private static void integersOfAllLengths() {
    int[] edges = {0, 1, 63, 64, 127, 128, 255, 256, 16383, 16384, 32767, 32768, 65535, 65536, 4194304, 8388607,
        8388608, 16777215, 16777216, 1073741824, Integer.MAX_VALUE};
    for (int edge : edges) {
      for (int n : new int[] {edge, -edge, -edge - 1}) {
        byte[] row = java.math.BigInteger.valueOf(n).toByteArray();
        StringBuilder s = new StringBuilder();
        for (byte b : row) {
          s.append(String.format(" %02x", b));
        }
        same("A=i;", "02 0" + row.length + s, "0" + row.length + s);
        NotationDesk d = desk("A=i;");
        putAll(d, "02 0" + row.length + s);
        due("transcode", transcode(d, 'A', 1, 2), String.valueOf(row.length + 1));
        due("its number", part(d, 0, 1), String.valueOf(n));
      }
    }
  }

  private static void deepestTypes() {
    same("A=[1!][2!][3!][4!][5!]b;", "81 01 ff", "80");
    same("A=[1][2][3][4][5]b;", "a1 0b a2 09 a3 07 a4 05 a5 03 01 01 ff", "80");
    same("A=[0][9!][8][7!]lb;", "a0 04 a9 02 a7 00", "00");
    same("A=[0][9!][8][7!][6]b;", "a0 07 a9 05 a7 03 01 01 ff", "80");
    same("A=lllllb;", "30 0b 30 09 30 07 30 05 30 03 01 01 ff", "01 01 01 01 01 80");
    same("A=q{q{q{q{q{b}}}}};", "30 0b 30 09 30 07 30 05 30 03 01 01 ff", "80");
    same("A=c{c{c{c{c{b}}}}};", "01 01 ff", "80");
    same("A=c{[1!]q{c{b,[2!]q{}}},n};", "a1 02 a2 00", "c0");
  }

  private static void openRules() {
    becomes("A=b;", 0, "01 01 01", 1, "01 01 ff");
    becomes("A=b;", 0, "01 81 01 00", 1, "01 01 00");
    becomes("A=b;", 0, "01 82 00 01 80", 1, "01 01 ff");
    noValue("A=b;", 0, "");
    noValue("A=b;", 0, "01");
    noValue("A=b;", 0, "01 00");
    noValue("A=b;", 0, "01 01");
    noValue("A=b;", 0, "01 02 00 00");
    noValue("A=b;", 0, "01 01 00 00");
    noValue("A=b;", 0, "01 80 00 00 00");
    noValue("A=b;", 0, "01 83 00 00 01 00");
    noValue("A=b;", 0, "01 81");
    noValue("A=b;", 0, "01 82 00");
    noValue("A=b;", 0, "21 01 00");
    becomes("A=i;", 0, "02 81 02 00 80", 1, "02 02 00 80");
    noValue("A=i;", 0, "02 00");
    noValue("A=i;", 0, "02 02 00 7f");
    noValue("A=i;", 0, "02 02 ff 80");
    noValue("A=i;", 0, "02 05 01 00 00 00 00");
    noValue("A=i(-5,5);", 0, "02 01 06");
    noValue("A=i(-5,5);", 0, "02 01 fa");
    becomes("A=n;", 0, "05 82 00 00", 1, "05 00");
    noValue("A=n;", 0, "05 01 00");
    noValue("A=n;", 0, "05 80 00 00");
    noValue("A=o;", 0, "24 80 04 01 00 00 00");
    noValue("A=o(1,2);", 0, "04 00");
    noValue("A=o(1,2);", 0, "04 03 00 00 00");
    becomes("A=q{};", 0, "30 80 00 00", 1, "30 00");
    noValue("A=q{};", 0, "30 80 00");
    noValue("A=q{};", 0, "30 80 00 01");
    noValue("A=q{};", 0, "30 02 00 00");
    noValue("A=q{};", 0, "30 80 01 01 00 00 00");
    becomes("A=q{b,lb};", 0, "30 80 01 01 00 30 80 01 01 09 00 00 00 00", 1, "30 08 01 01 00 30 03 01 01 ff");
    noValue("A=q{b,lb};", 0, "30 80 01 01 00 30 80 01 01 09 00 00");
    noValue("A=q{b,lb};", 0, "30 05 01 01 00 30 80 00 00");
    noValue("A=q{b,i};", 0, "30 06 02 01 00 01 01 00");
    noValue("A=q{b,i};", 0, "30 03 01 01 00");
    noValue("A=q{b?};", 0, "30 06 01 01 00 01 01 00");
    noValue("A=q{b};", 0, "30 03 01 02 00");
    noValue("A=q{b};", 0, "30 02 01 01 00");
    noValue("A=l(1,2)b;", 0, "30 00");
    noValue("A=l(1,2)b;", 0, "30 09 01 01 00 01 01 00 01 01 00");
    noValue("A=lb;", 0, "30 03 02 01 00");
    becomes("A=[1]b;", 0, "a1 80 01 01 07 00 00", 1, "a1 03 01 01 ff");
    noValue("A=[1]b;", 0, "a1 06 01 01 00 01 01 00");
    noValue("A=[1]b;", 0, "a1 00");
    noValue("A=[1]b;", 0, "81 03 01 01 00");
    noValue("A=[1!]b;", 0, "a1 01 00");
    noValue("A=[1!]b;", 0, "81 80 00 00 00");
    noValue("A=[1!]q{};", 0, "81 00");
    becomes("A=[1!]q{};", 0, "a1 80 00 00", 1, "a1 00");
    noValue("A=c{b,i};", 0, "04 00");
    noValue("A=c{b,i};", 0, "");
    becomes("A=q{b=1,i=5};", 0, "30 06 01 01 07 02 01 05", 1, "30 00");
    becomes("A=q{b=1,i=5};", 0, "30 06 01 01 00 02 01 06", 1, "30 06 01 01 00 02 01 06");
  }

  private static void strictRules() {
    noValue("A=b;", 1, "01 01 01");
    noValue("A=b;", 1, "01 81 01 00");
    noValue("A=b;", 1, "01 82 00 01 00");
    noValue("A=q{};", 1, "30 80 00 00");
    noValue("A=[1]b;", 1, "a1 80 01 01 00 00 00");
    noValue("A=[1]b;", 1, "a1 81 03 01 01 00");
    noValue("A=q{b=1};", 1, "30 03 01 01 ff");
    noValue("A=q{[0]i(1,3)=2};", 1, "30 05 a0 03 02 01 02");
    becomes("A=q{[0]i(1,3)=2};", 1, "30 05 a0 03 02 01 01", 2, "80");
    noValue("A=i;", 1, "02 02 00 01");
    same("A=[1!][2]b;", "a1 03 01 01 ff", "80");
    same("A=[1!][2!]b;", "81 01 ff", "80");
    same("A=[1][2!]b;", "a1 03 82 01 ff", "80");
    same("A=[1!][2!]lb;", "a1 00", "00");
    same("B=c{b,i};A=[1!]B;", "a1 03 01 01 ff", "40");
    same("A=[1!][2!]c{b,i};", "a1 03 01 01 00", "00");
    same("C=c{b,i};B=C;D=[3]B;A=[4!]D;", "a4 03 02 01 09", "80 01 09");
    same("B=[5]o(1,1);A=[6!]B;", "a6 03 04 01 aa", "aa");
  }

  private static void packedRules() {
    same("A=b;", "01 01 ff", "80");
    same("A=n;", "05 00", "00");
    same("A=q{};", "30 00", "00");
    same("A=i(7,7);", "02 01 07", "00");
    same("A=o(0,0);", "04 00", "00");
    same("A=i(5,6);", "02 01 06", "80");
    same("A=q{b,i(0,2)};", "30 06 01 01 ff 02 01 02", "c0");
    same("A=q{b,i(0,254)};", "30 07 01 01 ff 02 02 00 fe", "ff 00");
    same("A=q{b,i(0,255)};", "30 07 01 01 ff 02 02 00 ff", "80 ff");
    same("A=q{b,i(-1,255)};", "30 06 01 01 ff 02 01 ff", "80 00 00");
    same("A=i(0,65535);", "02 03 00 ff ff", "ff ff");
    same("A=q{b,i};", "30 07 01 01 ff 02 02 ff 7f", "80 02 ff 7f");
    same("A=i;", "02 04 80 00 00 00", "04 80 00 00 00");
    same("A=i;", "02 04 7f ff ff ff", "04 7f ff ff ff");
    same("A=i;", "02 03 80 00 00", "03 80 00 00");
    same("A=q{b,o(2,2)};", "30 07 01 01 ff 04 02 ff 00", "ff 80 00");
    same("A=q{b,o(1,1),b};", "30 09 01 01 00 04 01 ff 01 01 ff", "7f c0");
    same("A=q{b,o(3,3)};", "30 08 01 01 ff 04 03 01 02 03", "80 01 02 03");
    same("A=q{b,o(1,2)};", "30 06 01 01 ff 04 01 07", "80 07");
    same("A=q{b,o(0,2),b};", "30 08 01 01 ff 04 00 01 01 ff", "90");
    same("A=q{b,o,b};", "30 09 01 01 ff 04 01 05 01 01 ff", "80 01 05 80");
    same("A=q{b,o};", "30 05 01 01 ff 04 00", "80 00");
    same("A=q{b,l(0,20)b};", "30 0b 01 01 ff 30 06 01 01 ff 01 01 00", "8a");
    same("A=q{b,l(2,2)b};", "30 0b 01 01 00 30 06 01 01 ff 01 01 00", "40");
    same("A=q{b,lb};", "30 08 01 01 ff 30 03 01 01 ff", "80 01 80");
    same("A=l(1,3)b;", "30 03 01 01 ff", "20");
    same("A=q{b,l(1,2)b};", "30 0b 01 01 ff 30 06 01 01 ff 01 01 00", "e0");
    same("A=q{b?,i(0,3)=1,n?,o(1,1)};", "30 03 04 01 aa", "15 40");
    same("A=q{b?,i(0,3)=1,n?,o(1,1)};", "30 06 02 01 02 04 01 aa", "55 50");
    same("A=q{b?,i(0,3)=1,n?,o(1,1)};", "30 08 01 01 00 05 00 04 01 aa", "aa a0");
    same("A=c{b};", "01 01 ff", "80");
    same("A=c{[3]b,i(0,1),[0!]n};", "a3 03 01 01 ff", "a0");
    same("A=c{[3]b,i(0,1),[0!]n};", "02 01 01", "20");
    same("A=c{[3]b,i(0,1),[0!]n};", "80 00", "40");
    same("A=c{c{[9]b,n},o(1,1)};", "05 00", "80");
    same("A=c{c{[9]b,n},o(1,1)};", "a9 03 01 01 ff", "e0");
    same("A=c{c{[9]b,n},o(1,1)};", "04 01 0f", "07 80");
    noValue("A=b;", 2, "");
    noValue("A=b;", 2, "81");
    noValue("A=b;", 2, "80 00");
    noValue("A=n;", 2, "01");
    noValue("A=n;", 2, "00 00");
    noValue("A=n;", 2, "");
    noValue("A=i(0,2);", 2, "c0");
    noValue("A=i(0,256);", 2, "01 01");
    noValue("A=q{b,i(0,255)};", 2, "81 00");
    noValue("A=i;", 2, "00");
    noValue("A=i;", 2, "05 01 01 01 01 01");
    noValue("A=i;", 2, "02 00 7f");
    noValue("A=i;", 2, "02 01");
    noValue("A=o;", 2, "80");
    noValue("A=o;", 2, "01");
    noValue("A=lb;", 2, "80");
    noValue("A=c{b,i,n};", 2, "c0");
    noValue("A=q{b=1};", 2, "c0");
    noValue("A=q{i(0,3)=1};", 2, "a0");
    noValue("A=q{o(1,1),q{b?}};", 2, "aa");
    noValue("A=q{o(1,1),b};", 2, "aa");
    noValue("A=o(1,2);", 2, "81 00 00");
    becomes("A=o(1,2);", 2, "80 00 00", 1, "04 02 00 00");
  }

  private static void partLimit() {
    becomes("A=ln;", 2, "63", 2, "63");
    noValue("A=ln;", 2, "64");
    noValue("A=ln;", 2, "7f");
    noValue("A=l(20,20)l(4,4)n;", 2, "00");
    becomes("A=l(20,20)l(3,3)n;", 2, "00", 2, "00");
    // The default of the last item is the part that is too many.
    noValue("A=lq{b=0};", 2, "32 00 00 00 00 00 00 00");
    noValue("A=lq{b=0};", 0, "30 64 " + times(50, "30 00 "));
    becomes("A=lq{b=0};", 0, "30 62 " + times(49, "30 00 "), 2, "31 00 00 00 00 00 00 00");
    // Each item has three parts, two of them by default.
    NotationDesk d = desk("A=lq{b=0,i=1};");
    putAll(d, "30 42 " + times(33, "30 00 "));
    due("100 parts", transcode(d, 'A', 0, 2), "10");
    due("parts", d.parts(), 100);
    putAll(d, "30 44 " + times(34, "30 00 "));
    due("103 parts", transcode(d, 'A', 0, 2), "-1");
    due("the older value", d.parts(), 100);
  }

  private static void partsAndPart() {
    NotationDesk d = desk("A=q{n?,[0!]b=1,c{o,[1]lq{i?,n}},[2]i};B=b;");
    putAll(d, "30 15 a1 0d 30 0b 30 02 05 00 30 05 02 01 fe 05 00 a2 03 02 01 07");
    due("a wrong length", transcode(d, 'A', 0, 1), "-1");
    due("parts", d.parts(), 0);
    putAll(d, "30 14 a1 0d 30 0b 30 02 05 00 30 05 02 01 fe 05 00 a2 03 02 01 07");
    due("transcode", transcode(d, 'A', 0, 1), "22");
    due("all parts", allParts(d),
        "6/3/0/-1 1/1/1/0 9/1/2/0 7/2/0/2 6/1/0/3 5/0/1/4 6/2/1/3 2/-2/0/6 5/0/1/6 2/7/3/0");
    due("parts", d.parts(), 10);
    due("part(10, 0)", part(d, 10, 0), "NoSuchElementException");
    due("part(-1, 0)", part(d, -1, 0), "NoSuchElementException");
    due("part(least, 3)", part(d, Integer.MIN_VALUE, 3), "NoSuchElementException");
    due("part(0, 4)", part(d, 0, 4), "IllegalArgumentException");
    due("part(0, -1)", part(d, 0, -1), "IllegalArgumentException");
    due("what first", part(d, 99, 4), "IllegalArgumentException");
    due("a part without octets", octet(d, 0, 0), "NoSuchElementException");

    String value = allParts(d);
    due("by the packed rules", transcode(d, 'A', 1, 2), "7");
    due("bytes", bytes(d), "20 02 40 01 fe 01 07");
    due("read from them", transcode(d, 'A', 2, 2), "7");
    due("all parts", allParts(d), value);

    putAll(d, "01 01 09");
    due("no value", transcode(d, 'A', 0, 1), "-1");
    due("the older value", d.parts(), 10);
    due("another rule", transcode(d, 'B', 1, 1), "-1");
    due("the older value", d.parts(), 10);
    due("another value", transcode(d, 'B', 0, 1), "3");
    due("all parts", allParts(d), "1/1/0/-1");
    due("part(1, 0)", part(d, 1, 0), "NoSuchElementException");
  }

  private static void octets() {
    NotationDesk d = desk("A=q{o,b,o,[0]o?};");
    putAll(d, "30 0e 04 02 00 ff 01 01 00 04 00 a0 03 04 01 80");
    due("transcode", transcode(d, 'A', 0, 1), "16");
    due("all parts", allParts(d), "6/4/0/-1 4/2/0/0 1/0/1/0 4/0/2/0 4/1/3/0");
    due("octet(1, 0)", octet(d, 1, 0), "0");
    due("octet(1, 1)", octet(d, 1, 1), "255");
    due("octet(1, 2)", octet(d, 1, 2), "NoSuchElementException");
    due("octet(1, -1)", octet(d, 1, -1), "NoSuchElementException");
    due("octet(2, 0)", octet(d, 2, 0), "NoSuchElementException");
    due("octet(3, 0)", octet(d, 3, 0), "NoSuchElementException");
    due("octet(4, 0)", octet(d, 4, 0), "128");
    due("octet(5, 0)", octet(d, 5, 0), "NoSuchElementException");
    due("octet(-1, 0)", octet(d, -1, 0), "NoSuchElementException");
    due("octet(greatest, greatest)", octet(d, Integer.MAX_VALUE, Integer.MAX_VALUE), "NoSuchElementException");
    due("wipe", d.wipe(), 16);
    due("octet stays", octet(d, 1, 1), "255");
    due("clear", d.clear(), 17);
    due("octet without a value", octet(d, 1, 1), "NoSuchElementException");
  }

  private static void operations() {
    NotationDesk none = new NotationDesk();
    NotationDesk d = desk("A=b;B=i;");
    int[][] wrongOnes = {{-1, 0, 1}, {8, 0, 1}, {0, -1, 1}, {0, 3, 1}, {0, 0, 0}, {0, 0, 3}};
    for (int[] w : wrongOnes) {
      due("numbers first", operation(none, w[0], '?', w[1], w[2]), "IllegalArgumentException");
      due("numbers first", operation(d, w[0], '?', w[1], w[2]), "IllegalArgumentException");
    }
    due("module then", operation(none, 0, '?', 0, 1), "IllegalStateException");
    due("name then", operation(d, 0, 'C', 0, 1), "NoSuchElementException");
    due("nothing was made", served(d, "01 01 00 01 01 00"), "04 01 02");
    due("operation 0", operation(d, 0, 'A', 0, 2), "done");
    due("operation 7", operation(d, 7, 'B', 2, 1), "done");
    due("serve", served(d, "01 01 00 01 01 05"), "02 01 00 80");
    due("serve", served(d, "01 02 07 01 fe"), "02 02 07 02 01 fe");
    due("a wrong name changes nothing", operation(d, 0, 'C', 2, 1), "NoSuchElementException");
    due("wrong rules change nothing", operation(d, 0, 'B', 2, 0), "IllegalArgumentException");
    due("serve", served(d, "01 03 00 01 01 05"), "02 03 00 80");
    due("in place of what it was", operation(d, 0, 'B', 1, 2), "done");
    due("serve", served(d, "01 04 00 02 01 05"), "02 04 00 01 05");
    due("an ID stays served", served(d, "01 01 00 02 01 05"), "04 01 03");
  }

  private static String served(NotationDesk d, String message) {
    putAll(d, message);
    String answer = serve(d);
    String reply = bytes(d);
    due("first byte for " + message, answer, String.valueOf(d.at(0)));
    return reply;
  }

  private static void serving() {
    NotationDesk d = desk("A=b;B=lb;");
    due("operation", operation(d, 0, 'A', 1, 2), "done");
    due("operation", operation(d, 2, 'A', 0, 1), "done");
    due("operation", operation(d, 3, 'B', 2, 1), "done");
    due("empty", served(d, ""), "04 00 01");
    due("one byte", served(d, "01"), "04 00 01");
    due("two bytes", served(d, "01 09"), "04 09 01");
    due("one byte again", served(d, "01"), "04 00 01");
    due("none again", served(d, ""), "04 00 01");
    due("another beginning", served(d, "02 09 00 01 01 00"), "04 09 01");
    due("no such operation", served(d, "01 09 01 01 01 00"), "04 09 02");
    due("no such operation", served(d, "01 09 08"), "04 09 02");
    due("no such operation", served(d, "01 09 ff"), "04 09 02");
    due("parts", d.parts(), 0);
    due("a value", served(d, "01 09 00 01 01 ff"), "02 09 00 80");
    due("parts", allParts(d), "1/1/0/-1");
    due("served before", served(d, "01 09 00 01 01 ff"), "04 09 03");
    due("served before", served(d, "01 09 02 07"), "04 09 03");
    due("operation before ID", served(d, "01 09 05"), "04 09 02");
    due("no value", served(d, "01 ff 00 01 01 01"), "03 ff");
    due("the older value", allParts(d), "1/1/0/-1");
    due("served before with 3", served(d, "01 ff 02 01 01 01"), "04 ff 03");
    due("no bytes", served(d, "01 40 00"), "03 40");
    due("other IDs", served(d, "01 00 02 01 01 00"), "02 00 02 01 01 00");
    due("other IDs", served(d, "01 80 02 01 01 01"), "02 80 02 01 01 ff");
    due("other IDs", served(d, "01 7f 02 01 01 01"), "02 7f 02 01 01 ff");
    due("other IDs", served(d, "01 3f 02 01 01 01"), "02 3f 02 01 01 ff");
    due("other IDs", served(d, "01 49 02 01 01 01"), "02 49 02 01 01 ff");

    // 38 items are 116 bytes, with the head 119; 39 are three more.
    due("too long", served(d, "01 10 03 27 00 00 00 00 00"), "04 10 04");
    due("the older value", allParts(d), "1/1/0/-1");
    due("an ID refused is not served", served(d, "01 10 03 01 80"), "02 10 03 30 03 01 01 ff");
    due("just not too long", served(d, "01 11 03 26 00 00 00 00 00").substring(0, 14), "02 11 03 30 72");
    due("at(-1)", d.at(-1), 119);
    due("parts", d.parts(), 39);

    due("clear", d.clear(), 9);
    due("without a module", serve(d), "IllegalStateException");
    due("bytes", d.at(-1), 119);
  }

  private static void servingWithoutBits() {
    NotationDesk d = desk("A=n;B=o;");
    due("operation", operation(d, 0, 'A', 2, 2), "done");
    due("operation", operation(d, 1, 'A', 0, 2), "done");
    due("a byte 0", served(d, "01 01 00 00"), "02 01 00 00");
    due("another byte", served(d, "01 02 00 01"), "03 02");
    due("two bytes", served(d, "01 03 00 00 00"), "03 03");
    due("no byte", served(d, "01 04 00"), "03 04");
    due("to a byte 0", served(d, "01 05 01 05 00"), "02 05 01 00");
  }

  private static void longestReply() {
    NotationDesk d = desk("A=o;");
    due("operation", operation(d, 0, 'A', 2, 1), "done");
    putAll(d, "01 01 00 73" + " 0a".repeat(115));
    due("120 bytes", serve(d), "2");
    due("at(-1)", d.at(-1), 120);
    putAll(d, "01 02 00 74" + " 0a".repeat(116));
    due("121 bytes", serve(d), "4");
    due("reply", bytes(d), "04 02 04");
    due("parts", part(d, 0, 1), "115");
  }

  private static void apart() {
    NotationDesk one = desk("A=b;");
    NotationDesk other = new NotationDesk();
    due("put", one.put(1, 1), true);
    due("other", other.at(-1), 0);
    due("other", other.compile(), 1);
    due("other", other.clear(), 0);
    due("one", one.clear(), 4);
  }

  public static void main(String[] args) {
    try {
      newObject();
      type();
      clear();
      compile();
      compileAnother();
      charactersAtFault();
      otherFaults();
      putAndWipe();
      at();
      transcodeArguments();
      transcodeTooLong();
      transcodeTooLongPacked();
      bytesBeyond();
      integersOfAllLengths();
      deepestTypes();
      openRules();
      strictRules();
      packedRules();
      partLimit();
      partsAndPart();
      octets();
      operations();
      serving();
      servingWithoutBits();
      longestReply();
      apart();
    } catch (IndexOutOfBoundsException | NoSuchElementException | IllegalStateException e) {
      wrong++;
      System.out.println("a call threw that was not to: " + e);
    }
    System.out.println(wrong == 0 ? "all answers are as due" : wrong + " answers are not as due");
    if (wrong != 0) {
      System.exit(1);
    }
  }
}
