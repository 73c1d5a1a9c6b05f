import java.util.ArrayList;
import java.util.Arrays;
import java.util.HashMap;
import java.util.List;
import java.util.Map;
import java.util.TreeSet;

/**
 * Which bytes are a value's, and which value's. Nothing is read here: for each type all bytes of all its values, up
 * to a length, are made by the document's rules (open contents of an alphabet's bytes alone); then the desk is asked
 * for these, for all short rows, and for rows that differ in one place from a value's: where there are very many
 * values, from some. What was not made has to be no value's.
 */
public final class NotationDeskLanguages {
  private static final int CALL_LIMIT = 512;
  private static final int BYTE_LIMIT = 120;
  private static final int PART_LIMIT = 100;
  private static final int TOO_MANY_BYTES = -3;
  private static final String DIGITS = "0123456789abcdef";

  private static int wrong = 0;
  private static int asked = 0;

  /** A type, not as a text: its letter, or [ for a tag, and what is in it. */
  private static final class Type {
    final char letter;
    final Type[] inner;
    boolean bounded;
    int low;
    int high;
    int digit;
    boolean implicit;
    boolean optional;
    boolean hasDefault;
    int number;

    Type(char letter, Type... inner) {
      this.letter = letter;
      this.inner = inner;
    }

    Type bounds(int from, int to) {
      bounded = true;
      low = from;
      high = to;
      return this;
    }

    Type optional() {
      optional = true;
      return this;
    }

    Type byDefault(int n) {
      hasDefault = true;
      number = n;
      return this;
    }

    boolean allows(int n) {
      return !bounded || (n >= low && n <= high);
    }

    boolean canBeLeftOut() {
      return optional || hasDefault;
    }

    boolean isExplicit() {
      return !implicit || inner[0].letter == 'c';
    }

    Type untagged() {
      return letter == '[' ? inner[0].untagged() : this;
    }

    String text() {
      return bareText() + (optional ? "?" : "") + (hasDefault ? "=" + number : "");
    }

    private String bareText() {
      if (letter == '[') {
        return "[" + digit + (implicit ? "!]" : "]") + inner[0].text();
      }
      String bounds = bounded ? "(" + low + "," + high + ")" : "";
      if (letter == 'l') {
        return letter + bounds + inner[0].text();
      }
      if (letter != 'q' && letter != 'c') {
        return letter + bounds;
      }
      List<String> texts = new ArrayList<>();
      for (Type t : inner) {
        texts.add(t.text());
      }
      return letter + "{" + String.join(",", texts) + "}";
    }

    int leastTag() {
      switch (letter) {
        case 'b':
          return 1;
        case 'i':
          return 2;
        case 'o':
          return 4;
        case 'n':
          return 5;
        case '[':
          return 100 + digit;
        case 'c':
          int least = Integer.MAX_VALUE;
          for (Type t : inner) {
            least = Math.min(least, t.leastTag());
          }
          return least;
        default:
          return 16;
      }
    }

    /** Where the alternative stands in the order of the least tags. */
    int rank(int alternative) {
      int rank = 0;
      for (Type t : inner) {
        rank += t.leastTag() < inner[alternative].leastTag() ? 1 : 0;
      }
      return rank;
    }
  }

  private static Type b() {
    return new Type('b');
  }

  private static Type i() {
    return new Type('i');
  }

  private static Type o() {
    return new Type('o');
  }

  private static Type n() {
    return new Type('n');
  }

  private static Type q(Type... components) {
    return new Type('q', components);
  }

  private static Type l(Type items) {
    return new Type('l', items);
  }

  private static Type c(Type... alternatives) {
    return new Type('c', alternatives);
  }

  private static Type explicit(int digit, Type t) {
    Type tag = new Type('[', t);
    tag.digit = digit;
    return tag;
  }

  private static Type implicit(int digit, Type t) {
    Type tag = explicit(digit, t);
    tag.implicit = true;
    return tag;
  }

  /** A value; of a sequence's components, those that are not there are null. */
  private static final class Value {
    final Type type;
    final int number;
    final String octets;
    final Value[] inner;

    Value(Type type, int number, String octets, Value... inner) {
      this.type = type;
      this.number = number;
      this.octets = octets;
      this.inner = inner;
    }

    boolean isDefaultOf(Type component) {
      return component.hasDefault && number == component.number;
    }
  }

  /** Bytes, or bits, and whose they are; of more than one value while these are put together. */
  private static final class Made {
    final String row;
    final Value[] values;

    Made(String row, Value... values) {
      this.row = row;
      this.values = values;
    }

    Made then(String longer, Value v) {
      Value[] more = Arrays.copyOf(values, values.length + 1);
      more[values.length] = v;
      return new Made(longer, more);
    }
  }

  /** Makes all bytes by the open rules, or their strict form, whose contents have bytes of an alphabet alone. */
  private static final class OpenMaker {
    private final boolean strict;
    private final int[] alphabet;

    OpenMaker(boolean strict, int[] alphabet) {
      this.strict = strict;
      this.alphabet = alphabet;
    }

    List<Made> elements(Type t, int digit, int limit) {
      if (limit < 2) {
        return List.of();
      }
      if (t.letter == 'c') {
        return choices(t, limit);
      }
      if (t.letter == '[' && !t.isExplicit()) {
        return elements(t.inner[0], digit < 0 ? t.digit : digit, limit);
      }
      boolean ofElements = "[ql".indexOf(t.letter) >= 0;
      int tagByte = tagByte(t);
      if (digit >= 0) {
        tagByte = (ofElements ? 160 : 128) + digit;
      }
      List<Made> all = new ArrayList<>();
      for (Made content : contents(t, limit - 2)) {
        addWithLengths(all, content, (char) tagByte, ofElements, limit);
      }
      return all;
    }

    private static int tagByte(Type t) {
      switch (t.letter) {
        case 'b':
          return 1;
        case 'i':
          return 2;
        case 'o':
          return 4;
        case 'n':
          return 5;
        case '[':
          return 160 + t.digit;
        default:
          return 48;
      }
    }

    private List<Made> choices(Type t, int limit) {
      List<Made> all = new ArrayList<>();
      for (int k = 0; k < t.inner.length; k++) {
        for (Made m : elements(t.inner[k], -1, limit)) {
          all.add(new Made(m.row, new Value(t, k, "", m.values[0])));
        }
      }
      return all;
    }

    private void addWithLengths(List<Made> all, Made content, char tagByte, boolean ofElements, int limit) {
      char length = (char) content.row.length();
      addIfShort(all, "" + tagByte + length + content.row, content, limit);
      if (!strict) {
        addIfShort(all, "" + tagByte + (char) 129 + length + content.row, content, limit);
        addIfShort(all, "" + tagByte + (char) 130 + (char) 0 + length + content.row, content, limit);
      }
      if (!strict && ofElements) {
        addIfShort(all, "" + tagByte + (char) 128 + content.row + (char) 0 + (char) 0, content, limit);
      }
    }

    private static void addIfShort(List<Made> all, String row, Made content, int limit) {
      if (row.length() <= limit) {
        all.add(new Made(row, content.values));
      }
    }

    private List<Made> contents(Type t, int limit) {
      List<Made> all = new ArrayList<>();
      switch (t.letter) {
        case '[':
          return elements(t.inner[0], -1, limit);
        case 'b':
          for (String row : rows(1, Math.min(1, limit))) {
            if (!strict || row.charAt(0) == 0 || row.charAt(0) == 255) {
              all.add(new Made(row, new Value(t, row.charAt(0) == 0 ? 0 : 1, "")));
            }
          }
          return all;
        case 'i':
          for (String row : rows(1, Math.min(4, limit))) {
            if (isShortest(row) && t.allows(numberOf(row))) {
              all.add(new Made(row, new Value(t, numberOf(row), "")));
            }
          }
          return all;
        case 'o':
          for (String row : rows(0, limit)) {
            if (t.allows(row.length())) {
              all.add(new Made(row, new Value(t, row.length(), row)));
            }
          }
          return all;
        case 'q':
          return sequences(t, limit);
        case 'l':
          return lists(t, limit);
        default:
          return List.of(new Made("", new Value(t, 0, "")));
      }
    }

    private List<String> rows(int least, int most) {
      List<String> all = new ArrayList<>();
      List<String> rows = List.of("");
      for (int length = 0; length <= most; length++) {
        if (length >= least) {
          all.addAll(rows);
        }
        List<String> longer = new ArrayList<>();
        for (String row : length < most ? rows : List.<String>of()) {
          for (int b : alphabet) {
            longer.add(row + (char) b);
          }
        }
        rows = longer;
      }
      return all;
    }

    private List<Made> sequences(Type t, int limit) {
      List<Made> all = List.of(new Made(""));
      for (Type component : t.inner) {
        List<Made> longer = new ArrayList<>();
        for (Made m : all) {
          if (component.canBeLeftOut()) {
            longer.add(m.then(m.row, leftOut(component)));
          }
          for (Made element : elements(component, -1, limit - m.row.length())) {
            if (!strict || !element.values[0].isDefaultOf(component)) {
              longer.add(m.then(m.row + element.row, element.values[0]));
            }
          }
        }
        all = longer;
      }
      return wholes(t, all);
    }

    private List<Made> lists(Type t, int limit) {
      List<Made> all = new ArrayList<>();
      List<Made> rows = List.of(new Made(""));
      for (int count = 0; !rows.isEmpty(); count++) {
        if (t.allows(count)) {
          all.addAll(wholes(t, rows));
        }
        List<Made> longer = new ArrayList<>();
        for (Made m : rows) {
          for (Made element : elements(t.inner[0], -1, limit - m.row.length())) {
            longer.add(m.then(m.row + element.row, element.values[0]));
          }
        }
        rows = longer;
      }
      return all;
    }
  }

  /** Makes all bits by the packed rules. */
  private static final class PackedMaker {
    private final int limit;

    PackedMaker(int bytes) {
      limit = 8 * bytes;
    }

    List<Made> bytes(Type t) {
      List<Made> all = new ArrayList<>();
      for (Made m : bits(t, "")) {
        if (m.row.length() <= limit) {
          all.add(new Made(bytesOf(m.row), m.values));
        }
      }
      return all;
    }

    private List<Made> bits(Type t, String before) {
      List<Made> all = new ArrayList<>();
      if (before.length() > limit) {
        return all;
      }
      switch (t.letter) {
        case '[':
          return bits(t.inner[0], before);
        case 'b':
          add(all, before + "0", new Value(t, 0, ""));
          add(all, before + "1", new Value(t, 1, ""));
          return all;
        case 'i':
          return t.bounded ? boundedIntegers(t, before) : integers(t, before);
        case 'o':
          return octets(t, before);
        case 'q':
          return sequences(t, before);
        case 'l':
          return lists(t, before);
        case 'c':
          return choices(t, before);
        default:
          add(all, before, new Value(t, 0, ""));
          return all;
      }
    }

    private void add(List<Made> all, String row, Value v) {
      if (row.length() <= limit) {
        all.add(new Made(row, v));
      }
    }

    private List<Made> boundedIntegers(Type t, String before) {
      List<Made> all = new ArrayList<>();
      for (int number = t.low; number <= t.high; number++) {
        add(all, withNumber(before, number, t.low, t.high), new Value(t, number, ""));
      }
      return all;
    }

    private List<Made> integers(Type t, String before) {
      List<Made> all = new ArrayList<>();
      for (int count = 1; count <= 4; count++) {
        for (String row : octetRows(count, aligned(before).length() + 8)) {
          if (isShortest(row)) {
            add(all, withBytes(withByte(before, count), row), new Value(t, numberOf(row), ""));
          }
        }
      }
      return all;
    }

    private List<Made> octets(Type t, String before) {
      List<Made> all = new ArrayList<>();
      for (int count = t.bounded ? t.low : 0; count <= (t.bounded ? t.high : 127); count++) {
        String begun = withOctetCount(t, before, count);
        for (String row : octetRows(count, begun.length())) {
          add(all, withBytes(begun, row), new Value(t, count, row));
        }
      }
      return all;
    }

    /** All rows of so many bytes, if these can be there behind so many bits. */
    private List<String> octetRows(int count, int behind) {
      List<String> rows = new ArrayList<>();
      if (behind + 8 * count > limit) {
        return rows;
      }
      for (int bits = 0; bits < 1 << 8 * count; bits++) {
        StringBuilder row = new StringBuilder();
        for (int shift = 8 * count - 8; shift >= 0; shift -= 8) {
          row.append((char) (bits >> shift & 255));
        }
        rows.add(row.toString());
      }
      return rows;
    }

    private List<Made> choices(Type t, String before) {
      List<Made> all = new ArrayList<>();
      for (int k = 0; k < t.inner.length; k++) {
        for (Made m : bits(t.inner[k], withNumber(before, t.rank(k), 0, t.inner.length - 1))) {
          add(all, m.row, new Value(t, k, "", m.values[0]));
        }
      }
      return all;
    }

    private List<Made> sequences(Type t, String before) {
      List<Made> all = new ArrayList<>();
      for (int there = 0; there < 1 << t.inner.length; there++) {
        all.addAll(sequences(t, before, there));
      }
      return all;
    }

    private List<Made> sequences(Type t, String before, int there) {
      StringBuilder begun = new StringBuilder(before);
      for (int k = 0; k < t.inner.length; k++) {
        boolean isThere = (there >> k & 1) != 0;
        if (!isThere && !t.inner[k].canBeLeftOut()) {
          return List.of();
        }
        begun.append(!t.inner[k].canBeLeftOut() ? "" : isThere ? "1" : "0");
      }
      List<Made> all = List.of(new Made(begun.toString()));
      for (int k = 0; k < t.inner.length; k++) {
        List<Made> longer = new ArrayList<>();
        for (Made m : all) {
          if ((there >> k & 1) == 0) {
            longer.add(m.then(m.row, leftOut(t.inner[k])));
            continue;
          }
          for (Made component : bits(t.inner[k], m.row)) {
            if (!component.values[0].isDefaultOf(t.inner[k])) {
              longer.add(m.then(component.row, component.values[0]));
            }
          }
        }
        all = longer;
      }
      return wholes(t, all);
    }

    private List<Made> lists(Type t, String before) {
      List<Made> all = new ArrayList<>();
      for (int count = t.bounded ? t.low : 0; count <= (t.bounded ? t.high : 99); count++) {
        List<Made> rows = List.of(new Made(withCount(t, before, count)));
        for (int k = 0; k < count; k++) {
          List<Made> longer = new ArrayList<>();
          for (Made m : rows) {
            for (Made item : bits(t.inner[0], m.row)) {
              longer.add(m.then(item.row, item.values[0]));
            }
          }
          rows = longer;
        }
        all.addAll(wholes(t, rows));
      }
      return all;
    }
  }

  private static List<Made> wholes(Type t, List<Made> rows) {
    List<Made> all = new ArrayList<>();
    for (Made m : rows) {
      int there = 0;
      for (Value v : m.values) {
        there += v == null ? 0 : 1;
      }
      all.add(new Made(m.row, new Value(t, there, "", m.values)));
    }
    return all;
  }

  private static Value leftOut(Type component) {
    return component.hasDefault ? new Value(component.untagged(), component.number, "") : null;
  }

  private static boolean isShortest(String row) {
    if (row.length() < 2) {
      return true;
    }
    int firstNine = row.charAt(0) * 2 + row.charAt(1) / 128;
    return firstNine != 0 && firstNine != 511;
  }

  private static int numberOf(String row) {
    long n = 0;
    for (char b : row.toCharArray()) {
      n = n * 256 + b;
    }
    return (int) (row.charAt(0) < 128 ? n : n - (1L << 8 * row.length()));
  }

  private static String bytesOfNumber(int n) {
    for (int count = 1; count < 4; count++) {
      long half = 1L << 8 * count - 1;
      if (n >= -half && n < half) {
        return lastBytes(n, count);
      }
    }
    return lastBytes(n, 4);
  }

  private static String lastBytes(int n, int count) {
    return count == 0 ? "" : lastBytes(n >> 8, count - 1) + (char) (n & 255);
  }

  private static String aligned(String bits) {
    return bits + "0000000".substring(0, (8 - bits.length() % 8) % 8);
  }

  private static String bitsOf(int n, int count) {
    return count == 0 ? "" : bitsOf(n >> 1, count - 1) + (char) ('0' + (n & 1));
  }

  private static String withByte(String before, int n) {
    return aligned(before) + bitsOf(n, 8);
  }

  private static String withBytes(String before, String row) {
    StringBuilder bits = new StringBuilder(before);
    for (char b : row.toCharArray()) {
      bits.append(bitsOf(b, 8));
    }
    return bits.toString();
  }

  private static String withNumber(String before, int n, int low, int high) {
    int many = high - low + 1;
    if (many == 1) {
      return before;
    }
    if (many <= 255) {
      return before + bitsOf(n - low, Integer.toBinaryString(high - low).length());
    }
    return aligned(before) + bitsOf(n - low, many == 256 ? 8 : 16);
  }

  private static String withCount(Type t, String before, int count) {
    return t.bounded ? withNumber(before, count, t.low, t.high) : withByte(before, count);
  }

  private static String withOctetCount(Type t, String before, int count) {
    String begun = withCount(t, before, count);
    boolean isOneSmallNumber = t.bounded && t.low == t.high && t.high <= 2;
    return count == 0 || isOneSmallNumber ? begun : aligned(begun);
  }

  private static String bytesOf(String bits) {
    String whole = bits.isEmpty() ? "00000000" : aligned(bits);
    StringBuilder row = new StringBuilder();
    for (int k = 0; k < whole.length(); k += 8) {
      row.append((char) Integer.parseInt(whole.substring(k, k + 8), 2));
    }
    return row.toString();
  }

  private static String strictBytes(Type t, int digit, Value v) {
    if (t.letter == '[' && !t.isExplicit()) {
      return strictBytes(t.inner[0], digit < 0 ? t.digit : digit, v);
    }
    if (t.letter == 'c') {
      return strictBytes(t.inner[v.number], -1, v.inner[0]);
    }
    String content = strictContent(t, v);
    int tagByte = OpenMaker.tagByte(t);
    if (digit >= 0) {
      tagByte = ("[ql".indexOf(t.letter) >= 0 ? 160 : 128) + digit;
    }
    return "" + (char) tagByte + (char) content.length() + content;
  }

  private static String strictContent(Type t, Value v) {
    StringBuilder content = new StringBuilder();
    switch (t.letter) {
      case '[':
        return strictBytes(t.inner[0], -1, v);
      case 'b':
        return v.number == 0 ? "\u0000" : "\u00ff";
      case 'i':
        return bytesOfNumber(v.number);
      case 'o':
        return v.octets;
      case 'q':
        for (int k = 0; k < t.inner.length; k++) {
          if (v.inner[k] != null && !v.inner[k].isDefaultOf(t.inner[k])) {
            content.append(strictBytes(t.inner[k], -1, v.inner[k]));
          }
        }
        return content.toString();
      case 'l':
        for (Value item : v.inner) {
          content.append(strictBytes(t.inner[0], -1, item));
        }
        return content.toString();
      default:
        return "";
    }
  }

  private static String packedBits(Type t, String before, Value v) {
    switch (t.letter) {
      case '[':
        return packedBits(t.inner[0], before, v);
      case 'b':
        return before + v.number;
      case 'i':
        if (t.bounded) {
          return withNumber(before, v.number, t.low, t.high);
        }
        String row = bytesOfNumber(v.number);
        return withBytes(withByte(before, row.length()), row);
      case 'o':
        return withBytes(withOctetCount(t, before, v.number), v.octets);
      case 'q':
        return packedComponents(t, before, v);
      case 'l':
        String bits = withCount(t, before, v.number);
        for (Value item : v.inner) {
          bits = packedBits(t.inner[0], bits, item);
        }
        return bits;
      case 'c':
        String begun = withNumber(before, t.rank(v.number), 0, t.inner.length - 1);
        return packedBits(t.inner[v.number], begun, v.inner[0]);
      default:
        return before;
    }
  }

  private static String packedComponents(Type t, String before, Value v) {
    String bits = before;
    for (int k = 0; k < t.inner.length; k++) {
      if (t.inner[k].canBeLeftOut()) {
        bits += v.inner[k] == null || v.inner[k].isDefaultOf(t.inner[k]) ? "0" : "1";
      }
    }
    for (int k = 0; k < t.inner.length; k++) {
      if (v.inner[k] != null && !v.inner[k].isDefaultOf(t.inner[k])) {
        bits = packedBits(t.inner[k], bits, v.inner[k]);
      }
    }
    return bits;
  }

  /** What part() and octet() have to tell: for each part the answers to 0 .. 3, and its octets. */
  private static List<String> partsOf(Value v) {
    List<String> parts = new ArrayList<>();
    addParts(parts, v, 0, -1);
    return parts;
  }

  private static void addParts(List<String> parts, Value v, int place, int parent) {
    int self = parts.size();
    int kind = "bionqlc".indexOf(v.type.letter);
    StringBuilder octets = new StringBuilder();
    for (char b : v.octets.toCharArray()) {
      octets.append(' ').append((int) b);
    }
    parts.add("1245679".charAt(kind) + " " + v.number + " " + place + " " + parent + octets);
    for (int k = 0; k < v.inner.length; k++) {
      if (v.inner[k] != null) {
        addParts(parts, v.inner[k], v.type.letter == 'c' ? 0 : k, self);
      }
    }
  }

  private static String show(String row) {
    StringBuilder s = new StringBuilder();
    for (char b : row.toCharArray()) {
      s.append(DIGITS.charAt(b >> 4)).append(DIGITS.charAt(b & 15)).append(' ');
    }
    return s.toString();
  }

  /** One type, its languages by rules 0 .. 2, and a desk that is made anew before it has had too many calls. */
  private static final class Trial {
    private final Type type;
    private final String text;
    private final List<Map<String, Value>> languages = new ArrayList<>();
    private NotationDesk desk;
    private int calls;
    private int messages;

    Trial(Type type) {
      this.type = type;
      text = "A=" + type.text() + ";";
    }

    private void complain(String what) {
      wrong++;
      if (wrong <= 50) {
        System.out.println(text + " " + what);
      }
    }

    private void addLanguage(List<Made> all) {
      Map<String, Value> language = new HashMap<>();
      for (Made m : all) {
        if (partsOf(m.values[0]).size() <= PART_LIMIT && language.put(m.row, m.values[0]) != null) {
          complain("has two values of the bytes " + show(m.row));
        }
      }
      languages.add(language);
    }

    /** Each operation of the desk is for the type, by the rules from = k / 2 to 1 + k % 2. */
    private void prepare(int moreCalls) {
      if (desk != null && calls + moreCalls <= CALL_LIMIT) {
        return;
      }
      desk = new NotationDesk();
      for (char c : text.toCharArray()) {
        desk.type(c);
      }
      if (desk.compile() != 0) {
        complain("is not compiled");
      }
      for (int k = 0; k < 6; k++) {
        desk.operation(k, 'A', k / 2, 1 + k % 2);
      }
      calls = text.length() + 7;
      messages = 0;
    }

    private void ask(String row, int from) {
      asked++;
      int to = 1 + asked % 2;
      Value value = languages.get(from).get(row);
      List<String> parts = value == null ? List.of() : partsOf(value);
      String bytes = value == null ? null : bytesOf(value, to);
      prepare(2 * (row.length() + (bytes == null ? 0 : bytes.length())) + 4 * parts.size() + 20);
      desk.wipe();
      calls++;
      String call = asked % 5 == 0 ? serve(row, 2 * from + to - 1, bytes) : transcode(row, from, to, bytes);
      if (bytes != null && bytes.length() <= BYTE_LIMIT - 3 && asked % 7 == 0) {
        checkParts(call, parts);
      }
    }

    private String bytesOf(Value v, int rules) {
      return rules == 1 ? strictBytes(type, -1, v) : NotationDeskLanguages.bytesOf(packedBits(type, "", v));
    }

    private String transcode(String row, int from, int to, String due) {
      put(row);
      String call = show(row) + "by " + from + " to " + to;
      calls++;
      try {
        int got = desk.transcode('A', from, to);
        checkBuffer(call, got, due == null ? -1 : due.length(), due == null ? row : due);
      } catch (UnsupportedOperationException e) {
        checkBuffer(call, due != null && due.length() > BYTE_LIMIT ? 0 : TOO_MANY_BYTES, 0, row);
      }
      return call;
    }

    private String serve(String row, int operation, String due) {
      messages++;
      String id = "" + (char) messages;
      put("\u0001" + id + (char) operation + row);
      calls++;
      int got = desk.serve();
      String reply = "\u0003" + id;
      if (due != null) {
        reply = due.length() + 3 > BYTE_LIMIT ? "\u0004" + id + "\u0004" : "\u0002" + id + (char) operation + due;
      }
      String call = show(row) + "served by " + operation;
      checkBuffer(call, got, reply.charAt(0), reply);
      return call;
    }

    private void put(String row) {
      for (char b : row.toCharArray()) {
        desk.put(b, 1);
      }
      calls += row.length();
    }

    private void checkBuffer(String call, int got, int due, String bytes) {
      StringBuilder buffer = new StringBuilder();
      int count = desk.at(-1);
      for (int k = 0; k < count; k++) {
        buffer.append((char) desk.at(k));
      }
      calls += 1 + count;
      if (got != due || !bytes.contentEquals(buffer)) {
        complain(call + ": answered " + got + ", due is " + due + ", has " + show(buffer.toString()) + ", due is "
            + show(bytes));
      }
    }

    private void checkParts(String call, List<String> due) {
      List<String> got = new ArrayList<>();
      int count = desk.parts();
      for (int k = 0; k < count; k++) {
        int kind = desk.part(k, 0);
        int number = desk.part(k, 1);
        StringBuilder part = new StringBuilder();
        part.append(kind).append(' ').append(number).append(' ');
        part.append(desk.part(k, 2)).append(' ').append(desk.part(k, 3));
        for (int i = 0; kind == 4 && i < number; i++) {
          part.append(' ').append(desk.octet(k, i));
          calls++;
        }
        got.add(part.toString());
      }
      calls += 1 + 4 * count;
      if (!got.equals(due)) {
        complain(call + ": parts " + got + ", due are " + due);
      }
    }

    /** All rows of up to so many bytes of an alphabet. */
    private void askAll(String row, int[] alphabet, int more, int from) {
      ask(row, from);
      for (int k = 0; more > 0 && k < alphabet.length; k++) {
        askAll(row + (char) alphabet[k], alphabet, more - 1, from);
      }
    }

    /** All of the language, and what differs in one place from it, or from some of it, and is not too long. */
    private void askNear(int[] alphabet, int limit, int from) {
      TreeSet<String> rows = new TreeSet<>(languages.get(from).keySet());
      int every = 1 + rows.size() * alphabet.length / 4000;
      int count = 0;
      for (String row : rows) {
        ask(row, from);
        count++;
        for (int k = 0; count % every == 0 && k <= row.length(); k++) {
          askNearAt(row, k, alphabet, limit, from);
        }
      }
    }

    private void askNearAt(String row, int k, int[] alphabet, int limit, int from) {
      String before = row.substring(0, k);
      ask(before, from);
      if (k < row.length()) {
        ask(before + row.substring(k + 1), from);
      }
      for (int b : alphabet) {
        if (k < row.length()) {
          ask(before + (char) b + row.substring(k + 1), from);
        }
        if (row.length() < limit) {
          ask(before + (char) b + row.substring(k), from);
        }
      }
    }
  }

  private static void addTagBytes(Type t, TreeSet<Integer> bytes) {
    int own = OpenMaker.tagByte(t);
    bytes.add(own);
    if (t.letter == '[') {
      bytes.add(128 + t.digit);
    }
    for (Type inner : t.inner) {
      addTagBytes(inner, bytes);
    }
  }

  /** Lengths, tag bytes and bytes at the edges: no row that is asked for has another byte in it. */
  private static int[] alphabetOf(Type t, int limit) {
    TreeSet<Integer> bytes = new TreeSet<>(List.of(127, 128, 129, 130, 255));
    for (int length = 0; length <= limit; length++) {
      bytes.add(length);
    }
    addTagBytes(t, bytes);
    return bytes.stream().mapToInt(Integer::intValue).toArray();
  }

  private static int[] allBytes() {
    int[] all = new int[256];
    Arrays.setAll(all, k -> k);
    return all;
  }

  private static void check(Type t, int openLimit, int packedLimit) {
    Trial trial = new Trial(t);
    int[] alphabet = alphabetOf(t, openLimit);
    trial.addLanguage(new OpenMaker(false, alphabet).elements(t, -1, openLimit));
    trial.addLanguage(new OpenMaker(true, alphabet).elements(t, -1, openLimit));
    trial.addLanguage(new PackedMaker(packedLimit).bytes(t));
    for (int rules = 0; rules <= 1; rules++) {
      trial.askAll("", alphabet, Math.min(3, openLimit), rules);
      trial.askNear(alphabet, openLimit, rules);
    }
    trial.askAll("", allBytes(), packedLimit == 1 ? 1 : 2, 2);
    trial.askNear(allBytes(), packedLimit, 2);
  }

  private static void checkPlainTypes() {
    check(b(), 6, 2);
    check(n(), 6, 2);
    check(i(), 6, 3);
    check(i().bounds(-3, 3), 6, 2);
    check(i().bounds(1, 1), 6, 2);
    check(i().bounds(0, 254), 6, 2);
    check(i().bounds(0, 255), 6, 2);
    check(i().bounds(-1, 255), 6, 2);
    check(i().bounds(-300, 65235), 6, 2);
    check(o(), 5, 2);
    check(o().bounds(0, 0), 5, 2);
    check(o().bounds(1, 1), 5, 2);
    check(o().bounds(2, 2), 6, 2);
    check(o().bounds(1, 2), 6, 2);
    check(o().bounds(0, 20), 5, 2);
  }

  private static void checkTags() {
    check(explicit(0, b()), 8, 2);
    check(implicit(0, b()), 6, 2);
    check(implicit(9, explicit(3, n())), 8, 2);
    check(explicit(9, implicit(3, n())), 8, 2);
    check(implicit(1, implicit(2, i().bounds(0, 5))), 6, 2);
    check(implicit(1, c(b(), n())), 8, 2);
    check(implicit(1, implicit(2, c(n(), explicit(1, n())))), 8, 2);
    check(implicit(4, l(n())), 8, 2);
    check(implicit(4, q(n().optional())), 8, 2);
  }

  private static void checkSequences() {
    check(q(), 6, 2);
    check(q(b()), 7, 2);
    check(q(b().optional(), n()), 8, 2);
    check(q(b().byDefault(1)), 8, 2);
    check(q(b().byDefault(0), n().optional()), 8, 2);
    check(q(i().bounds(0, 2).byDefault(1), b().byDefault(1)), 8, 2);
    check(q(explicit(0, b()).byDefault(1), implicit(1, b()).byDefault(0)), 9, 2);
    check(q(b().optional(), i().bounds(0, 255).optional()), 8, 2);
    check(q(i().bounds(5, 7), q(n().optional())), 9, 2);
    check(q(n().optional(), c(b(), q()).optional()), 8, 2);
    check(q(b(), o().bounds(1, 1)), 8, 2);
    check(q(b(), o().bounds(0, 1)), 8, 2);
    check(q(o().bounds(0, 1), b()), 8, 2);
    check(q(n().optional(), i().bounds(0, 254)), 7, 2);
    check(q(n().optional(), i().bounds(0, 255)), 7, 2);
    check(q(b().optional(), i().byDefault(-1)), 7, 3);
    check(q(b(), b().optional(), implicit(0, b()), i().bounds(0, 300).optional()), 9, 3);
  }

  private static void checkLists() {
    check(l(b()), 8, 2);
    check(l(n()), 8, 2);
    check(l(n()).bounds(2, 3), 9, 2);
    check(l(b()).bounds(0, 20), 8, 2);
    check(l(b()).bounds(2, 2), 8, 2);
    check(l(q(b().byDefault(0))), 9, 2);
    check(l(l(n())), 9, 2);
    check(l(c(b(), n())).bounds(0, 2), 9, 2);
    check(l(i().bounds(1, 1)), 8, 2);
    check(l(o().bounds(1, 1)).bounds(0, 3), 7, 2);
    check(l(explicit(0, n())), 9, 2);
    check(l(explicit(0, l(implicit(1, c(n()))))), 10, 2);
    check(implicit(3, q(explicit(0, c(q(n().optional()))))), 10, 2);
  }

  private static void checkChoices() {
    check(c(b()), 6, 2);
    check(c(n(), i().bounds(0, 3), b()), 7, 2);
    check(c(q(), implicit(9, n()), implicit(0, n()), n(), o().bounds(1, 1)), 7, 2);
    check(c(c(implicit(5, n()), n()), c(explicit(6, n()), b())), 8, 2);
    check(c(l(n()), explicit(0, c(b(), n()))), 8, 2);
    check(c(implicit(2, q(b().optional())), implicit(1, l(b()))), 8, 2);
    check(c(i(), o()), 5, 3);
  }

  public static void main(String[] args) {
    checkPlainTypes();
    checkTags();
    checkSequences();
    checkLists();
    checkChoices();
    System.out.println(wrong == 0 ? "all languages are as due" : wrong + " answers are not as due");
    if (wrong != 0) {
      System.exit(1);
    }
  }
}
