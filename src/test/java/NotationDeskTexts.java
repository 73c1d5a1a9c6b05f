import java.util.ArrayDeque;
import java.util.ArrayList;
import java.util.Collections;
import java.util.Deque;
import java.util.HashMap;
import java.util.List;
import java.util.Map;
import java.util.Set;
import java.util.TreeSet;

/**
 * Faults and their places, against a second reader of texts: an automaton that takes character behind character,
 * keeps what is still open on a stack, and knows no more than which characters can be next. Texts: all that go on
 * without a fault up to some length, each with all characters behind it, and many long ones that are almost right.
 */
public final class NotationDeskTexts {
  private static final String ALPHABET = "bionqlc{}[]!(),;=?-0159ABCZ \u0000\u00e9\u4e00";

  private static int wrong = 0;
  private static long seed = 20261116L;
  private static final int[] seen = new int[8];

  /** What can be next. */
  private enum Next { NAME, EQUALS, TYPE, TAG, AFTER_TAG_DIGIT, TAG_END, BRACE, FIRST, BOUNDS, NUMBER, DIGIT, DIGITS,
    BOUND_END, SEMICOLON, MODE, COMMA, NOTHING }

  /** What is known of a type whose end has been read. */
  private static final class Known {
    final char letter;
    final int low;
    final int high;
    final Set<Integer> tags;
    final int deepest;
    boolean canBeLeftOut;

    Known(char letter, int low, int high, Set<Integer> tags, int deepest) {
      this.letter = letter;
      this.low = low;
      this.high = high;
      this.tags = tags;
      this.deepest = deepest;
    }
  }

  /** A definition (=), q, l or c that has not come to its end. */
  private static final class Open {
    final char letter;
    final List<Integer> digits = new ArrayList<>();
    final List<Known> members = new ArrayList<>();

    Open(char letter) {
      this.letter = letter;
    }
  }

  private static final class Automaton {
    private final Map<Character, Known> defined = new HashMap<>();
    private final Deque<Open> open = new ArrayDeque<>();
    private Next next = Next.NAME;
    private char name;
    private char letter;
    private char numberOf;
    private int digits;
    private int sum;
    private int sign;
    private int low;
    private int place;

    /** The fault + 16 * its place, or 0. */
    static int due(String text) {
      Automaton a = new Automaton();
      for (a.place = 0; a.place <= text.length(); a.place++) {
        int fault = a.take(a.place < text.length() ? text.charAt(a.place) : -1);
        if (fault != 0) {
          return fault + 16 * a.place;
        }
      }
      return 0;
    }

    private int take(int c) {
      switch (next) {
        case NAME:
          return takeDefinedName(c);
        case EQUALS:
          open.push(new Open('='));
          return only('=', c, Next.TYPE);
        case FIRST:
          return c == '}' ? close() : takeType(c);
        case TYPE:
          return takeType(c);
        case TAG:
          open.peek().digits.add(c - '0');
          return isDigit(c) ? go(Next.AFTER_TAG_DIGIT) : 1;
        case AFTER_TAG_DIGIT:
          return c == '!' ? go(Next.TAG_END) : only(']', c, Next.TYPE);
        case TAG_END:
          return only(']', c, Next.TYPE);
        case BRACE:
          open.push(new Open(letter));
          return only('{', c, letter == 'q' ? Next.FIRST : Next.TYPE);
        case BOUNDS:
          return takeBounds(c);
        case NUMBER:
        case DIGIT:
        case DIGITS:
          return takeNumber(c);
        case BOUND_END:
          return takeBoundEnd(c);
        case SEMICOLON:
          return takeSemicolon(c);
        default:
          return takeBehindMember(c);
      }
    }

    private int go(Next to) {
      next = to;
      return 0;
    }

    private int only(char due, int c, Next to) {
      return c == due ? go(to) : 1;
    }

    private static boolean isDigit(int c) {
      return "0123456789".indexOf(c) >= 0;
    }

    private static boolean isName(int c) {
      return "ABCDEFGHIJKLMNOPQRSTUVWXYZ".indexOf(c) >= 0;
    }

    private int takeDefinedName(int c) {
      if (c == -1 && !defined.isEmpty()) {
        return go(Next.NOTHING);
      }
      if (!isName(c)) {
        return 1;
      }
      name = (char) c;
      return defined.containsKey(name) ? 2 : go(Next.EQUALS);
    }

    /** How many a type is inside of that begins here. */
    private int inside() {
      int count = -1;
      for (Open o : open) {
        count += 1 + o.digits.size();
      }
      return count;
    }

    private int takeType(int c) {
      if (c == '[') {
        return go(Next.TAG);
      }
      if (isName(c)) {
        Known k = defined.get((char) c);
        if (k == null) {
          return 3;
        }
        return inside() + k.deepest >= 6 ? 5 : finish(k);
      }
      if ("bionqlc".indexOf(c) < 0) {
        return 1;
      }
      if (inside() >= 6) {
        return 5;
      }
      letter = (char) c;
      switch (letter) {
        case 'b':
          return finish(new Known('b', 0, 1, Set.of(1), 0));
        case 'n':
          return finish(new Known('n', 0, 0, Set.of(5), 0));
        case 'q':
        case 'c':
          return go(Next.BRACE);
        default:
          return go(Next.BOUNDS);
      }
    }

    /** The type in what is open innermost is whole now. */
    private int finish(Known k) {
      Open o = open.peek();
      Known whole = new Known(k.letter, k.low, k.high, o.digits.isEmpty() ? k.tags : Set.of(100 + o.digits.get(0)),
          k.deepest + o.digits.size());
      o.digits.clear();
      o.members.add(whole);
      switch (o.letter) {
        case 'l':
          open.pop();
          return finish(new Known('l', 0, 0, Set.of(16), whole.deepest + 1));
        case '=':
          return go(Next.SEMICOLON);
        case 'q':
          return go(Next.MODE);
        default:
          return go(Next.COMMA);
      }
    }

    private int finishLetter(int from, int to) {
      if (letter == 'l') {
        open.push(new Open('l'));
        return go(Next.TYPE);
      }
      return finish(new Known(letter, from, to, Set.of(letter == 'i' ? 2 : 4), 0));
    }

    private int takeBounds(int c) {
      if (c == '(') {
        return beginNumber('(');
      }
      finishLetter(Integer.MIN_VALUE, Integer.MAX_VALUE);
      return take(c);
    }

    private int beginNumber(char of) {
      numberOf = of;
      digits = 0;
      sum = 0;
      sign = 1;
      return go(Next.NUMBER);
    }

    private int takeNumber(int c) {
      if (next == Next.NUMBER && c == '-') {
        sign = -1;
        return go(Next.DIGIT);
      }
      if (isDigit(c)) {
        digits++;
        sum = 10 * sum + c - '0';
        return digits == 6 ? 1 : go(Next.DIGITS);
      }
      return digits == 0 ? 1 : endNumber(sign * sum, c);
    }

    private int endNumber(int number, int c) {
      if (numberOf == '(') {
        low = number;
        return c == ',' ? beginNumber(',') : 1;
      }
      if (numberOf == ',') {
        next = Next.BOUND_END;
        return take(c);
      }
      Known k = open.peek().members.get(open.peek().members.size() - 1);
      if ("bi".indexOf(k.letter) < 0 || number < k.low || number > k.high) {
        place--;
        return 4;
      }
      k.canBeLeftOut = true;
      next = Next.COMMA;
      return take(c);
    }

    private int takeBoundEnd(int c) {
      if (c != ')') {
        return 1;
      }
      int high = sign * sum;
      boolean areNumbers = low <= high && high - low + 1 <= 65536;
      boolean areSizes = low >= 0 && low <= high && high <= 20;
      if (letter == 'i' ? !areNumbers : !areSizes) {
        return 4;
      }
      return finishLetter(low, high);
    }

    private int takeSemicolon(int c) {
      if (c != ';') {
        return 1;
      }
      defined.put(name, open.pop().members.get(0));
      return go(Next.NAME);
    }

    private int takeBehindMember(int c) {
      Open o = open.peek();
      if (next == Next.MODE && c == '?') {
        o.members.get(o.members.size() - 1).canBeLeftOut = true;
        return go(Next.COMMA);
      }
      if (next == Next.MODE && c == '=') {
        return beginNumber('=');
      }
      if (c == ',') {
        return o.members.size() == 6 ? 7 : go(Next.TYPE);
      }
      return c == '}' ? close() : 1;
    }

    private int close() {
      Open o = open.pop();
      List<Known> members = o.members;
      Set<Integer> tags = new TreeSet<>();
      int deepest = 0;
      for (int i = 0; i < members.size(); i++) {
        boolean canMeet = true;
        for (int j = i + 1; j < members.size(); j++) {
          canMeet = canMeet && (o.letter == 'c' || members.get(j - 1).canBeLeftOut);
          if (canMeet && !Collections.disjoint(members.get(i).tags, members.get(j).tags)) {
            return 6;
          }
        }
        tags.addAll(members.get(i).tags);
        deepest = Math.max(deepest, members.get(i).deepest + 1);
      }
      return finish(new Known(o.letter, 0, 0, o.letter == 'q' ? Set.of(16) : tags, deepest));
    }
  }

  private static int next(int bound) {
    seed = seed * 6364136223846793005L + 1442695040888963407L;
    return (int) ((seed >>> 33) % bound);
  }

  private static int answer(String text) {
    NotationDesk d = new NotationDesk();
    for (char c : text.toCharArray()) {
      d.type(c);
    }
    return d.compile();
  }

  private static int check(String text) {
    int due = Automaton.due(text);
    int got = answer(text);
    seen[due & 15]++;
    if (got != due) {
      wrong++;
      if (wrong <= 50) {
        System.out.println(text + ": compile() answered " + got + ", due is " + due);
      }
    }
    return due;
  }

  /** All texts behind one that has no fault before its end. */
  private static void checkAllBehind(String text, int more) {
    for (char c : ALPHABET.toCharArray()) {
      String longer = text + c;
      int due = check(longer);
      boolean goesOn = due == 0 || due == 1 + 16 * longer.length() || due == 4 + 16 * (longer.length() - 1);
      if (goesOn && more > 1) {
        checkAllBehind(longer, more - 1);
      }
    }
  }

  private static String someNumber() {
    String[] some = {"0", "1", "2", "-1", "20", "21", "-0", "007", "255", "256", "65535", "65536", "-32768", "99999",
      "-99999", "000001", "123456"};
    return some[next(next(3) == 0 ? some.length : 5)];
  }

  private static String someBounds() {
    String[] right = {"", "", "(0,0)", "(1,3)", "(0,20)"};
    return next(3) > 0 ? right[next(right.length)] : "(" + someNumber() + "," + someNumber() + ")";
  }

  private static String someTags() {
    StringBuilder tags = new StringBuilder();
    while (next(3) == 0) {
      tags.append('[').append(next(10)).append(next(2) == 0 ? "!]" : "]");
    }
    return tags.toString();
  }

  private static String someType(int names, int deep) {
    String tags = someTags();
    if (names > 0 && next(4) == 0) {
      return tags + (char) ('A' + next(names));
    }
    char letter = "bionqlcqlcqlc".charAt(next(deep > 0 ? 13 : 4));
    switch (letter) {
      case 'b':
      case 'n':
        return tags + letter;
      case 'q':
      case 'c':
        return tags + letter + "{" + someMembers(letter, names, deep) + "}";
      case 'l':
        return tags + letter + someBounds() + someType(names, deep - 1);
      default:
        return tags + letter + someBounds();
    }
  }

  private static String someMembers(char letter, int names, int deep) {
    StringBuilder members = new StringBuilder();
    int count = next(5) == 0 ? next(9) : next(4);
    boolean tagged = next(2) == 0;
    for (int i = 0; i < count; i++) {
      members.append(i == 0 ? "" : ",").append(tagged ? "[" + i + "!]" : "").append(someType(names, deep - 1));
      int mode = letter == 'c' ? 0 : next(6);
      members.append(mode == 1 ? "?" : "").append(mode == 2 ? "=" + someNumber() : "");
    }
    return members.toString();
  }

  /** Names mostly are those that come next, so that later definitions can use them. */
  private static String someModule() {
    StringBuilder text = new StringBuilder();
    int count = 1 + next(4);
    for (int i = 0; i < count; i++) {
      text.append((char) ('A' + (next(30) == 0 ? 0 : i))).append('=').append(someType(i, next(6))).append(';');
    }
    return text.toString();
  }

  private static String spoil(String text) {
    StringBuilder s = new StringBuilder(text);
    int place = next(s.length());
    switch (next(4)) {
      case 0:
        return s.deleteCharAt(place).toString();
      case 1:
        return s.insert(place, ALPHABET.charAt(next(ALPHABET.length()))).toString();
      case 2:
        return s.substring(0, place);
      default:
        s.setCharAt(place, ALPHABET.charAt(next(ALPHABET.length())));
        return s.toString();
    }
  }

  private static void checkSomeModules(int count) {
    for (int n = 0; n < count; n++) {
      String text = someModule();
      if (text.length() <= 150) {
        check(text);
        check(spoil(text));
      }
    }
  }

  /** A fault that is never due would be a hole in the texts. */
  private static void checkAllSeen() {
    for (int fault = 0; fault < seen.length; fault++) {
      if (seen[fault] < 100) {
        wrong++;
        System.out.println("fault " + fault + " is due only " + seen[fault] + " times");
      }
    }
  }

  public static void main(String[] args) {
    check("");
    checkAllBehind("", 3);
    checkAllBehind("A=", 4);
    checkAllBehind("A=q{", 4);
    checkAllBehind("A=c{b,", 4);
    checkAllBehind("A=q{i=", 4);
    checkAllBehind("A=q{i?,", 3);
    checkAllBehind("A=i(", 4);
    checkAllBehind("A=l(1,", 4);
    checkAllBehind("A=q{b,b,b,b,b", 3);
    checkAllBehind("A=l[1]l[2]", 4);
    checkAllBehind("A=l[1]l[2][3]", 3);
    checkAllBehind("A=c{b,n};B=lA;C=[2!]B;D=", 3);
    checkAllBehind("Z=n;A=q{Z,", 3);
    checkSomeModules(60000);
    checkAllSeen();
    System.out.println(wrong == 0 ? "all texts are as due" : wrong + " answers are not as due");
    if (wrong != 0) {
      System.exit(1);
    }
  }
}
