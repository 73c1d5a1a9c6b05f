import java.util.NoSuchElementException;

/** A desk for a notation of types, their values as bytes, and operations on these. */
public final class NotationDesk {
  public static final int NONE = -1;

  private static final int TEXT_LIMIT = 150;
  private static final int BYTE_LIMIT = 120;
  private static final int PART_LIMIT = 100;
  private static final int OPERATION_COUNT = 8;
  private static final int NAME_COUNT = 26;
  private static final int MEMBER_LIMIT = 6;
  /** A type that this many others are around is too deep. */
  private static final int INSIDE_LIMIT = 6;

  private static final int OPEN_RULES = 0;
  private static final int STRICT_RULES = 1;
  private static final int PACKED_RULES = 2;

  private static final int BOOLEAN = 1;
  private static final int INTEGER = 2;
  private static final int OCTETS = 4;
  private static final int NULL = 5;
  private static final int SEQUENCE = 6;
  private static final int LIST = 7;
  private static final int CHOICE = 9;
  private static final int TAGGED = 10;

  private static final int REQUIRED = 0;
  private static final int OPTIONAL = 1;
  private static final int DEFAULTED = 2;

  /** Sets of tags are bits of an int: the small tags by themselves, 100 + a digit from this bit on. */
  private static final int FIRST_DIGIT_BIT = 17;
  private static final int ELEMENTS_TAG_BIT = 16;
  private static final int ELEMENTS_TAG_BYTE = 48;
  private static final int PLAIN_DIGIT_BYTE = 128;
  private static final int ELEMENTS_DIGIT_BYTE = 160;

  private static final int REQUEST = 1;
  private static final int ANSWER = 2;
  private static final int NO_VALUE = 3;
  private static final int REFUSAL = 4;
  private static final int MESSAGE_HEAD = 3;

  private final char[] text;
  private int textLength;
  private final Compiler compiler;
  private boolean compiled;

  private final int[] buffer;
  private int length;
  private final int[] written;

  private final Value value;
  /** Readers fill this one, so that a call that comes to nothing leaves the value alone. */
  private final Value found;

  private final OpenReader openReader;
  private final PackedReader packedReader;
  private final StrictWriter strictWriter;
  private final PackedWriter packedWriter;

  private final Type[] operationTypes;
  private final int[] argumentRules;
  private final int[] answerRules;
  /** A bit for each of the 256 IDs. */
  private final long[] served;

  public NotationDesk() {
    text = new char[TEXT_LIMIT];
    compiler = new Compiler(text);
    buffer = new int[BYTE_LIMIT];
    written = new int[BYTE_LIMIT];
    value = new Value();
    found = new Value();
    openReader = new OpenReader(buffer, found);
    packedReader = new PackedReader(buffer, found);
    strictWriter = new StrictWriter(written, found);
    packedWriter = new PackedWriter(written, found);
    operationTypes = new Type[OPERATION_COUNT];
    argumentRules = new int[OPERATION_COUNT];
    answerRules = new int[OPERATION_COUNT];
    served = new long[4];
  }

  public boolean type(char c) {
    if (textLength >= TEXT_LIMIT) {
      return false;
    }
    text[textLength] = c;
    textLength++;
    forgetModule();
    return true;
  }

  public int clear() {
    int had = textLength;
    textLength = 0;
    forgetModule();
    return had;
  }

  public int compile() {
    forgetModule();
    int fault = compiler.translate(textLength);
    compiled = fault == 0;
    return fault;
  }

  public boolean put(long bytes, int n) {
    if (n < 1 || n > 8 || length + n > BYTE_LIMIT) {
      return false;
    }
    for (int shift = 8 * (n - 1); shift >= 0; shift -= 8) {
      buffer[length] = (int) (bytes >>> shift) & 255;
      length++;
    }
    return true;
  }

  public int wipe() {
    int had = length;
    length = 0;
    return had;
  }

  public int at(int k) throws IndexOutOfBoundsException {
    if (k == -1) {
      return length;
    }
    if (k < 0 || k >= length) {
      throw new IndexOutOfBoundsException("no such byte");
    }
    return buffer[k];
  }

  public int transcode(char name, int from, int to)
      throws IllegalArgumentException, IllegalStateException, NoSuchElementException, UnsupportedOperationException {
    if (!areRules(from, to)) {
      throw new IllegalArgumentException("no such rules");
    }
    if (!compiled) {
      throw new IllegalStateException("no module");
    }
    Type type = compiler.typeNamed(name);
    if (type == null) {
      throw new NoSuchElementException("no such name");
    }
    if (!readBuffer(type, from, 0)) {
      return -1;
    }
    int end = writeFound(type, to, 0);
    if (end == NONE) {
      throw new UnsupportedOperationException("too many bytes");
    }
    value.copyOf(found);
    keepWritten(end);
    return end;
  }

  public int parts() {
    return value.count;
  }

  public int part(int k, int what) throws IllegalArgumentException, NoSuchElementException {
    if (what < 0 || what > 3) {
      throw new IllegalArgumentException("no such question");
    }
    if (k < 0 || k >= value.count) {
      throw new NoSuchElementException("no such part");
    }
    switch (what) {
      case 0:
        return value.kind[k];
      case 1:
        return value.number[k];
      case 2:
        return value.place[k];
      default:
        return value.parent[k];
    }
  }

  public int octet(int k, int i) throws NoSuchElementException {
    int b = value.octetAt(k, i);
    if (b == NONE) {
      throw new NoSuchElementException("no such byte");
    }
    return b;
  }

  public void operation(int k, char name, int from, int to)
      throws IllegalArgumentException, IllegalStateException, NoSuchElementException {
    if (k < 0 || k >= OPERATION_COUNT || !areRules(from, to)) {
      throw new IllegalArgumentException("no such operation or rules");
    }
    if (!compiled) {
      throw new IllegalStateException("no module");
    }
    Type type = compiler.typeNamed(name);
    if (type == null) {
      throw new NoSuchElementException("no such name");
    }
    operationTypes[k] = type;
    argumentRules[k] = from;
    answerRules[k] = to;
  }

  public int serve() throws IllegalStateException {
    if (!compiled) {
      throw new IllegalStateException("no module");
    }
    int id = length > 1 ? buffer[1] : 0;
    if (length < MESSAGE_HEAD || buffer[0] != REQUEST) {
      return refuseMessage(id, 1);
    }
    int k = buffer[2];
    if (k < 0 || k >= OPERATION_COUNT || operationTypes[k] == null) {
      return refuseMessage(id, 2);
    }
    if (wasServed(id)) {
      return refuseMessage(id, 3);
    }
    if (!readBuffer(operationTypes[k], argumentRules[k], MESSAGE_HEAD)) {
      markServed(id);
      return sayNoValue(id);
    }
    int end = writeFound(operationTypes[k], answerRules[k], MESSAGE_HEAD);
    if (end == NONE) {
      return refuseMessage(id, 4);
    }
    markServed(id);
    value.copyOf(found);
    written[0] = ANSWER;
    written[1] = id;
    written[2] = k;
    keepWritten(end);
    return ANSWER;
  }

  private int sayNoValue(int id) {
    buffer[0] = NO_VALUE;
    buffer[1] = id;
    length = 2;
    return NO_VALUE;
  }

  private int refuseMessage(int id, int reason) {
    buffer[0] = REFUSAL;
    buffer[1] = id;
    buffer[2] = reason;
    length = 3;
    return REFUSAL;
  }

  private boolean wasServed(int id) {
    return (served[(id >> 6) & 3] & (1L << (id & 63))) != 0;
  }

  private void markServed(int id) {
    served[(id >> 6) & 3] |= 1L << (id & 63);
  }

  private void forgetModule() {
    compiled = false;
    value.empty();
    for (int k = 0; k < OPERATION_COUNT; k++) {
      operationTypes[k] = null;
    }
    for (int k = 0; k < served.length; k++) {
      served[k] = 0;
    }
  }

  private static boolean areRules(int from, int to) {
    return from >= OPEN_RULES && from <= PACKED_RULES && to >= STRICT_RULES && to <= PACKED_RULES;
  }

  private boolean readBuffer(Type type, int rules, int start) {
    found.empty();
    if (rules == PACKED_RULES) {
      return packedReader.readAll(type, start, length);
    }
    return openReader.readAll(type, start, length, rules == STRICT_RULES);
  }

  /** Answers where the bytes end, or NONE if they do not fit. */
  private int writeFound(Type type, int rules, int start) {
    return rules == PACKED_RULES ? packedWriter.writeAll(type, start) : strictWriter.writeAll(type, start);
  }

  private void keepWritten(int end) {
    System.arraycopy(written, 0, buffer, 0, end);
    length = end;
  }

  /** A type as compiled; a tag is a type around the one that it is in front of. */
  private static final class Type {
    int kind;
    boolean bounded;
    int low;
    int high;
    int digit;
    boolean explicit;
    int tags;
    /** How many types the deepest one in it is inside of. */
    int height;
    int memberCount;
    Type inner;
    Component first;
    Component last;

    Type() {
    }

    void begin(int newKind) {
      kind = newKind;
      bounded = false;
      low = 0;
      high = 0;
      digit = 0;
      explicit = false;
      tags = tagsOf(newKind);
      height = 0;
      memberCount = 0;
      inner = null;
      first = null;
      last = null;
    }

    private static int tagsOf(int kind) {
      switch (kind) {
        case BOOLEAN:
        case INTEGER:
        case OCTETS:
        case NULL:
          return 1 << kind;
        case SEQUENCE:
        case LIST:
          return 1 << ELEMENTS_TAG_BIT;
        default:
          return 0;
      }
    }

    void beginTag(int newDigit, boolean isExplicit) {
      begin(TAGGED);
      digit = newDigit;
      explicit = isExplicit;
      tags = 1 << (FIRST_DIGIT_BIT + newDigit);
    }

    void addMember(Component member) {
      member.index = memberCount;
      memberCount++;
      if (last == null) {
        first = member;
      } else {
        last.next = member;
      }
      last = member;
    }

    boolean allows(int n) {
      return !bounded || (n >= low && n <= high);
    }

    Type untagged() {
      Type type = this;
      for (int i = 0; i < INSIDE_LIMIT && type.kind == TAGGED && type.inner != null; i++) {
        type = type.inner;
      }
      return type;
    }

    /** The tag byte of its element; a digit other than NONE is that of an implicit tag in front. */
    int tagByte(int implicitDigit) {
      boolean ofElements = kind == SEQUENCE || kind == LIST || kind == TAGGED;
      if (implicitDigit != NONE) {
        return (ofElements ? ELEMENTS_DIGIT_BYTE : PLAIN_DIGIT_BYTE) + implicitDigit;
      }
      if (kind == TAGGED) {
        return ELEMENTS_DIGIT_BYTE + digit;
      }
      return ofElements ? ELEMENTS_TAG_BYTE : kind;
    }

    Component memberAt(int index) {
      for (Component c = first; c != null; c = c.next) {
        if (c.index == index) {
          return c;
        }
      }
      return null;
    }

    Component memberRanked(int rank) {
      for (Component c = first; c != null; c = c.next) {
        if (c.rank == rank) {
          return c;
        }
      }
      return null;
    }

    Component memberWithTag(int tagBit) {
      for (Component c = first; c != null; c = c.next) {
        if ((c.tags() & tagBit) != 0) {
          return c;
        }
      }
      return null;
    }

    /** Packed octets of one small size stand where they come; all others begin with a byte. */
    boolean isAlignedOctets() {
      return !bounded || low != high || high > 2;
    }
  }

  /** A component of a sequence, or an alternative of a choice. */
  private static final class Component {
    Type type;
    int index;
    int mode;
    int number;
    /** Which one it is among alternatives in the order of their least tags. */
    int rank;
    Component next;

    Component() {
    }

    void begin(Type ofType) {
      type = ofType;
      index = 0;
      mode = REQUIRED;
      number = 0;
      rank = 0;
      next = null;
    }

    int tags() {
      return type == null ? 0 : type.tags;
    }

    int leastTag() {
      return tags() & -tags();
    }
  }

  /** Reads a module's text; the types of the latest module stand in its rows. */
  private static final class Compiler {
    private static final int WRONG_CHARACTER = 1;
    private static final int DEFINED_TWICE = 2;
    private static final int UNDEFINED = 3;
    private static final int WRONG_NUMBERS = 4;
    private static final int TOO_DEEP = 5;
    private static final int SAME_TAG = 6;
    private static final int TOO_MANY = 7;
    private static final int END = -1;
    private static final int DIGIT_LIMIT = 5;
    private static final int RANGE_LIMIT = 65536;
    private static final int SIZE_LIMIT = 20;

    private final char[] text;
    private final Type[] defined;
    /** Each type, and each member, has a character of its own in the text: as many do. */
    private final Type[] types;
    private final Component[] members;
    private int typeCount;
    private int memberCount;
    private int length;
    private int position;
    private int fault;
    private int number;

    Compiler(char[] source) {
      text = source;
      defined = new Type[NAME_COUNT];
      types = new Type[TEXT_LIMIT];
      members = new Component[TEXT_LIMIT];
    }

    Type typeNamed(char name) {
      return isName(name) ? defined[name - 'A'] : null;
    }

    /** Answers 0, or the first fault and its place. */
    int translate(int textLength) {
      length = Math.min(textLength, text.length);
      position = 0;
      fault = 0;
      typeCount = 0;
      memberCount = 0;
      for (int i = 0; i < NAME_COUNT; i++) {
        defined[i] = null;
      }
      readDefinition();
      for (int i = 0; i < TEXT_LIMIT && fault == 0 && position < length; i++) {
        readDefinition();
      }
      return fault;
    }

    private void readDefinition() {
      int c = nextCharacter();
      if (!isName(c)) {
        refuse(WRONG_CHARACTER, position);
        return;
      }
      if (defined[c - 'A'] != null) {
        refuse(DEFINED_TWICE, position);
        return;
      }
      position++;
      if (!pass('=')) {
        return;
      }
      Type type = readType(0);
      if (type != null && pass(';')) {
        defined[c - 'A'] = type;
      }
    }

    /** Like all that read a type: null after a fault. */
    private Type readType(int inside) {
      Type outermost = null;
      Type innermost = null;
      int tagCount = 0;
      while (tagCount < TEXT_LIMIT && nextCharacter() == '[') {
        Type tag = readTag();
        if (tag == null) {
          return null;
        }
        if (innermost == null) {
          outermost = tag;
        } else {
          innermost.inner = tag;
        }
        innermost = tag;
        tagCount++;
      }
      Type type = readUntagged(inside + tagCount);
      if (type == null || innermost == null) {
        return type;
      }
      innermost.inner = type;
      if (type.kind == CHOICE) {
        innermost.explicit = true;
      }
      setHeights(outermost, type, tagCount);
      return outermost;
    }

    private static void setHeights(Type outermost, Type type, int tagCount) {
      int left = tagCount;
      for (Type tag = outermost; tag != null && tag != type; tag = tag.inner) {
        tag.height = type.height + left;
        left--;
      }
    }

    private Type readTag() {
      position++;
      int c = nextCharacter();
      if (!isDigit(c)) {
        refuse(WRONG_CHARACTER, position);
        return null;
      }
      position++;
      boolean implicit = nextCharacter() == '!';
      if (implicit) {
        position++;
      }
      if (!pass(']')) {
        return null;
      }
      Type tag = newType(TAGGED);
      if (tag != null) {
        tag.beginTag(c - '0', !implicit);
      }
      return tag;
    }

    private Type readUntagged(int inside) {
      int c = nextCharacter();
      if (isName(c)) {
        return readReference(c, inside);
      }
      int kind = kindOf(c);
      if (kind == NONE) {
        refuse(WRONG_CHARACTER, position);
        return null;
      }
      if (inside >= INSIDE_LIMIT) {
        refuse(TOO_DEEP, position);
        return null;
      }
      position++;
      Type type = newType(kind);
      if (type == null) {
        return null;
      }
      boolean isRead = true;
      if (kind == SEQUENCE || kind == CHOICE) {
        isRead = readMembers(type, inside);
      } else if (kind == LIST) {
        isRead = readBounds(type) && readItems(type, inside);
      } else if (kind == INTEGER || kind == OCTETS) {
        isRead = readBounds(type);
      }
      return isRead ? type : null;
    }

    private static int kindOf(int c) {
      switch (c) {
        case 'b':
          return BOOLEAN;
        case 'i':
          return INTEGER;
        case 'o':
          return OCTETS;
        case 'n':
          return NULL;
        case 'q':
          return SEQUENCE;
        case 'l':
          return LIST;
        case 'c':
          return CHOICE;
        default:
          return NONE;
      }
    }

    private Type readReference(int c, int inside) {
      Type type = defined[c - 'A'];
      if (type == null) {
        refuse(UNDEFINED, position);
        return null;
      }
      if (inside + type.height >= INSIDE_LIMIT) {
        refuse(TOO_DEEP, position);
        return null;
      }
      position++;
      return type;
    }

    private boolean readItems(Type list, int inside) {
      Type items = readType(inside + 1);
      if (items == null) {
        return false;
      }
      list.inner = items;
      list.height = items.height + 1;
      return true;
    }

    private boolean readBounds(Type type) {
      if (nextCharacter() != '(') {
        return true;
      }
      position++;
      if (!readNumber()) {
        return false;
      }
      type.low = number;
      if (!pass(',') || !readNumber()) {
        return false;
      }
      type.high = number;
      if (nextCharacter() == ')' && !areBounds(type)) {
        refuse(WRONG_NUMBERS, position);
        return false;
      }
      type.bounded = true;
      return pass(')');
    }

    private static boolean areBounds(Type type) {
      if (type.low > type.high) {
        return false;
      }
      if (type.kind == INTEGER) {
        return type.high - type.low < RANGE_LIMIT;
      }
      return type.low >= 0 && type.high <= SIZE_LIMIT;
    }

    private boolean readNumber() {
      boolean negative = nextCharacter() == '-';
      if (negative) {
        position++;
      }
      int digits = 0;
      int sum = 0;
      while (digits < DIGIT_LIMIT && isDigit(nextCharacter())) {
        sum = 10 * sum + nextCharacter() - '0';
        position++;
        digits++;
      }
      if (digits == 0 || isDigit(nextCharacter())) {
        refuse(WRONG_CHARACTER, position);
        return false;
      }
      number = negative ? -sum : sum;
      return true;
    }

    private boolean readMembers(Type type, int inside) {
      if (!pass('{')) {
        return false;
      }
      if (type.kind == SEQUENCE && nextCharacter() == '}') {
        position++;
        return true;
      }
      for (int i = 1; i <= MEMBER_LIMIT; i++) {
        if (!readMember(type, inside + 1)) {
          return false;
        }
        if (nextCharacter() == '}') {
          return closeMembers(type);
        }
        if (nextCharacter() == ',' && i == MEMBER_LIMIT) {
          refuse(TOO_MANY, position);
          return false;
        }
        if (!pass(',')) {
          return false;
        }
      }
      return false;
    }

    private boolean readMember(Type type, int inside) {
      Type memberType = readType(inside);
      if (memberType == null) {
        return false;
      }
      Component member = newMember(memberType);
      if (member == null) {
        return false;
      }
      type.addMember(member);
      type.height = Math.max(type.height, memberType.height + 1);
      return type.kind == CHOICE || readMode(member, memberType.untagged());
    }

    private boolean readMode(Component member, Type untagged) {
      if (nextCharacter() == '?') {
        position++;
        member.mode = OPTIONAL;
        return true;
      }
      if (nextCharacter() != '=') {
        return true;
      }
      position++;
      if (!readNumber()) {
        return false;
      }
      if (!isDefault(untagged, number)) {
        refuse(WRONG_NUMBERS, position - 1);
        return false;
      }
      member.mode = DEFAULTED;
      member.number = number;
      return true;
    }

    private static boolean isDefault(Type untagged, int n) {
      if (untagged.kind == BOOLEAN) {
        return n == 0 || n == 1;
      }
      return untagged.kind == INTEGER && untagged.allows(n);
    }

    private boolean closeMembers(Type type) {
      boolean isChoice = type.kind == CHOICE;
      if (isChoice ? alternativesClash(type) : componentsClash(type)) {
        refuse(SAME_TAG, position);
        return false;
      }
      if (isChoice) {
        gatherAlternatives(type);
      }
      position++;
      return true;
    }

    private static boolean alternativesClash(Type choice) {
      int seen = 0;
      for (Component c = choice.first; c != null; c = c.next) {
        if ((seen & c.tags()) != 0) {
          return true;
        }
        seen |= c.tags();
      }
      return false;
    }

    private static boolean componentsClash(Type sequence) {
      int possible = 0;
      for (Component c = sequence.first; c != null; c = c.next) {
        if ((possible & c.tags()) != 0) {
          return true;
        }
        possible = c.mode == REQUIRED ? 0 : possible | c.tags();
      }
      return false;
    }

    private static void gatherAlternatives(Type choice) {
      for (Component c = choice.first; c != null; c = c.next) {
        choice.tags |= c.tags();
        for (Component other = choice.first; other != null; other = other.next) {
          if (other.leastTag() < c.leastTag()) {
            c.rank++;
          }
        }
      }
    }

    private Type newType(int kind) {
      if (typeCount >= types.length) {
        refuse(WRONG_CHARACTER, position);
        return null;
      }
      Type type = types[typeCount];
      if (type == null) {
        type = new Type();
        types[typeCount] = type;
      }
      type.begin(kind);
      typeCount++;
      return type;
    }

    private Component newMember(Type type) {
      if (memberCount >= members.length) {
        refuse(WRONG_CHARACTER, position);
        return null;
      }
      Component member = members[memberCount];
      if (member == null) {
        member = new Component();
        members[memberCount] = member;
      }
      member.begin(type);
      memberCount++;
      return member;
    }

    private int nextCharacter() {
      return position < length ? text[position] : END;
    }

    private boolean pass(char c) {
      if (nextCharacter() != c) {
        refuse(WRONG_CHARACTER, position);
        return false;
      }
      position++;
      return true;
    }

    private void refuse(int code, int place) {
      fault = code + 16 * place;
    }

    private static boolean isName(int c) {
      return c >= 'A' && c <= 'Z';
    }

    private static boolean isDigit(int c) {
      return c >= '0' && c <= '9';
    }
  }

  /** The parts of a value, each one in front of those in it. */
  private static final class Value {
    int count;
    final int[] kind;
    final int[] number;
    final int[] place;
    final int[] parent;
    private final int[] firstOctet;
    /** Of a sequence: a bit for each component that strict and packed bytes have. */
    private final int[] shown;
    private final int[] octets;
    private int octetCount;

    Value() {
      kind = new int[PART_LIMIT];
      number = new int[PART_LIMIT];
      place = new int[PART_LIMIT];
      parent = new int[PART_LIMIT];
      firstOctet = new int[PART_LIMIT];
      shown = new int[PART_LIMIT];
      octets = new int[BYTE_LIMIT];
    }

    void empty() {
      count = 0;
      octetCount = 0;
    }

    /** Takes over what the desk tells of a value; what writers use stays behind. */
    void copyOf(Value other) {
      count = other.count;
      octetCount = other.octetCount;
      System.arraycopy(other.kind, 0, kind, 0, count);
      System.arraycopy(other.number, 0, number, 0, count);
      System.arraycopy(other.place, 0, place, 0, count);
      System.arraycopy(other.parent, 0, parent, 0, count);
      System.arraycopy(other.firstOctet, 0, firstOctet, 0, count);
      System.arraycopy(other.octets, 0, octets, 0, octetCount);
    }

    /** Answers which part it is, or NONE if there are too many. */
    int addPart(int itsKind, int itsParent, int itsPlace) {
      if (count >= PART_LIMIT) {
        return NONE;
      }
      int part = count;
      count++;
      kind[part] = itsKind;
      number[part] = 0;
      place[part] = itsPlace;
      parent[part] = itsParent;
      firstOctet[part] = octetCount;
      shown[part] = 0;
      return part;
    }

    boolean addOctet(int part, int octet) {
      if (octetCount >= octets.length) {
        return false;
      }
      octets[octetCount] = octet;
      octetCount++;
      number[part]++;
      return true;
    }

    /** Answers NONE if there is no such byte. */
    int octetAt(int part, int i) {
      if (part < 0 || part >= count || kind[part] != OCTETS || i < 0 || i >= number[part]) {
        return NONE;
      }
      return octets[firstOctet[part] + i];
    }

    /** Takes a component that was read as the part child; false if rules without defaults were broken. */
    boolean takeComponent(Component c, int sequence, int child, boolean withoutDefaults) {
      number[sequence]++;
      if (c.mode == DEFAULTED && child < count && number[child] == c.number) {
        return !withoutDefaults;
      }
      shown[sequence] |= 1 << c.index;
      return true;
    }

    /** False if the component, of which there are no bytes, has to have some or is a part too many. */
    boolean leaveOutComponent(Component c, int sequence) {
      if (c.mode != DEFAULTED || c.type == null) {
        return c.mode == OPTIONAL;
      }
      int child = addPart(c.type.untagged().kind, sequence, c.index);
      if (child == NONE) {
        return false;
      }
      number[child] = c.number;
      number[sequence]++;
      return true;
    }

    boolean shows(int sequence, Component c) {
      return (shown[sequence] >> c.index & 1) != 0;
    }
  }

  /** What both sets of rules have in common: how an integer stands in bytes. */
  private static final class Integers {
    private static final int LIMIT = 4;

    private Integers() {
    }

    static boolean areBytesOfOne(int[] bytes, int from, int count) {
      if (count < 1 || count > LIMIT || from < 0 || from + count > bytes.length) {
        return false;
      }
      if (count == 1) {
        return true;
      }
      int firstNineBits = bytes[from] << 1 | bytes[from + 1] >> 7;
      return firstNineBits != 0 && firstNineBits != 511;
    }

    /** For bytes that are those of one. */
    static int fromBytes(int[] bytes, int from, int count) {
      int n = bytes[from] < 128 ? 0 : -1;
      for (int i = from; i < from + count; i++) {
        n = n << 8 | bytes[i];
      }
      return n;
    }

    static int byteCount(int n) {
      int count = 1;
      while (count < LIMIT && n >> (8 * count - 1) != 0 && n >> (8 * count - 1) != -1) {
        count++;
      }
      return count;
    }

    /** How many bits packed rules give to a number of 0 .. highest: above a byte always two bytes. */
    static int bitsOfNumbersTo(int highest) {
      if (highest > 255) {
        return 16;
      }
      int count = 0;
      while (count < 8 && highest >> count > 0) {
        count++;
      }
      return count;
    }
  }

  /** Reads a value by the open rules, or by their strict form. */
  private static final class OpenReader {
    /** In place of a content's end: two bytes 0 stand behind it. */
    private static final int MARKED = -2;

    private final int[] bytes;
    private final Value value;
    private boolean strict;
    private int position;

    OpenReader(int[] source, Value target) {
      bytes = source;
      value = target;
    }

    boolean readAll(Type type, int start, int end, boolean strictly) {
      strict = strictly;
      position = start;
      return end <= bytes.length && readElement(type, NONE, NONE, 0, end, 0) && position == end;
    }

    private boolean readElement(Type type, int digit, int parent, int place, int end, int inside) {
      if (type == null || inside >= INSIDE_LIMIT) {
        return false;
      }
      if (type.kind == TAGGED) {
        return readTagged(type, digit, parent, place, end, inside);
      }
      if (type.kind == CHOICE) {
        return readChoice(type, parent, place, end, inside);
      }
      boolean ofElements = type.kind == SEQUENCE || type.kind == LIST;
      int contentEnd = readHeader(type.tagByte(digit), ofElements, end);
      int part = contentEnd == NONE ? NONE : value.addPart(type.kind, parent, place);
      if (part == NONE) {
        return false;
      }
      if (!ofElements) {
        return readPlain(type, part, contentEnd);
      }
      int limit = contentEnd == MARKED ? end : contentEnd;
      boolean isRead = type.kind == LIST
          ? readItems(type, part, limit, inside) : readComponents(type, part, limit, inside);
      return isRead && readContentEnd(contentEnd, end);
    }

    private boolean readTagged(Type type, int digit, int parent, int place, int end, int inside) {
      if (!type.explicit) {
        int outer = digit == NONE ? type.digit : digit;
        return readElement(type.inner, outer, parent, place, end, inside + 1);
      }
      int contentEnd = readHeader(type.tagByte(digit), true, end);
      if (contentEnd == NONE) {
        return false;
      }
      int limit = contentEnd == MARKED ? end : contentEnd;
      return readElement(type.inner, NONE, parent, place, limit, inside + 1) && readContentEnd(contentEnd, end);
    }

    private boolean readChoice(Type type, int parent, int place, int end, int inside) {
      Component alternative = type.memberWithTag(nextTagBit(end));
      int part = alternative == null ? NONE : value.addPart(CHOICE, parent, place);
      if (part == NONE) {
        return false;
      }
      value.number[part] = alternative.index;
      return readElement(alternative.type, NONE, part, 0, end, inside + 1);
    }

    private boolean readComponents(Type type, int part, int limit, int inside) {
      for (Component c = type.first; c != null; c = c.next) {
        int child = value.count;
        if ((c.tags() & nextTagBit(limit)) == 0) {
          if (!value.leaveOutComponent(c, part)) {
            return false;
          }
        } else if (!readElement(c.type, NONE, part, c.index, limit, inside + 1)
            || !value.takeComponent(c, part, child, strict)) {
          return false;
        }
      }
      return true;
    }

    private boolean readItems(Type type, int part, int limit, int inside) {
      int items = 0;
      while (items < PART_LIMIT && nextTagBit(limit) != 0) {
        if (!readElement(type.inner, NONE, part, items, limit, inside + 1)) {
          return false;
        }
        items++;
      }
      value.number[part] = items;
      return type.allows(items);
    }

    private boolean readPlain(Type type, int part, int contentEnd) {
      int count = contentEnd - position;
      switch (type.kind) {
        case BOOLEAN:
          return count == 1 && readBoolean(part);
        case INTEGER:
          return readInteger(type, part, count);
        case OCTETS:
          return type.allows(count) && readOctets(part, count);
        default:
          return count == 0;
      }
    }

    private boolean readBoolean(int part) {
      int b = bytes[position];
      position++;
      value.number[part] = b == 0 ? 0 : 1;
      return !strict || b == 0 || b == 255;
    }

    private boolean readInteger(Type type, int part, int count) {
      if (!Integers.areBytesOfOne(bytes, position, count)) {
        return false;
      }
      int n = Integers.fromBytes(bytes, position, count);
      position += count;
      value.number[part] = n;
      return type.allows(n);
    }

    private boolean readOctets(int part, int count) {
      for (int i = 0; i < count; i++) {
        if (!value.addOctet(part, bytes[position])) {
          return false;
        }
        position++;
      }
      return true;
    }

    /** Answers where the content ends, MARKED, or NONE if no such element begins here. */
    private int readHeader(int tagByte, boolean ofElements, int end) {
      if (position + 2 > end || bytes[position] != tagByte) {
        return NONE;
      }
      int first = bytes[position + 1];
      position += 2;
      if (first == 128) {
        return ofElements && !strict ? MARKED : NONE;
      }
      int count = first < 128 ? first : readLongLength(first - 128, end);
      return count == NONE || count > end - position ? NONE : position + count;
    }

    private int readLongLength(int byteCount, int end) {
      // A length that needs more than one byte goes beyond any buffer, so strict bytes never have it.
      if (strict || byteCount > 2 || position + byteCount > end) {
        return NONE;
      }
      int count = 0;
      for (int i = 0; i < byteCount; i++) {
        count = count << 8 | bytes[position];
        position++;
      }
      return count;
    }

    private boolean readContentEnd(int contentEnd, int end) {
      if (contentEnd != MARKED) {
        return position == contentEnd;
      }
      if (position + 2 > end || bytes[position] != 0 || bytes[position + 1] != 0) {
        return false;
      }
      position += 2;
      return true;
    }

    /** The tag with which what stands here begins, as a set, which is empty if nothing does. */
    private int nextTagBit(int end) {
      return position < end ? tagBitOf(bytes[position]) : 0;
    }

    private static int tagBitOf(int b) {
      if (b >= ELEMENTS_DIGIT_BYTE && b < ELEMENTS_DIGIT_BYTE + 10) {
        return 1 << (FIRST_DIGIT_BIT + b - ELEMENTS_DIGIT_BYTE);
      }
      if (b >= PLAIN_DIGIT_BYTE && b < PLAIN_DIGIT_BYTE + 10) {
        return 1 << (FIRST_DIGIT_BIT + b - PLAIN_DIGIT_BYTE);
      }
      if (b == ELEMENTS_TAG_BYTE) {
        return 1 << ELEMENTS_TAG_BIT;
      }
      return b == BOOLEAN || b == INTEGER || b == OCTETS || b == NULL ? 1 << b : 0;
    }
  }

  /** Writes a value by the strict rules, part behind part. */
  private static final class StrictWriter {
    private final int[] bytes;
    private final Value value;
    private int position;
    private int nextPart;
    private boolean full;

    StrictWriter(int[] target, Value source) {
      bytes = target;
      value = source;
    }

    /** Answers where the bytes end, or NONE if they do not fit. */
    int writeAll(Type type, int start) {
      position = start;
      nextPart = 0;
      full = false;
      writeElement(type, NONE, 0);
      return full ? NONE : position;
    }

    private void writeElement(Type type, int digit, int inside) {
      if (type == null || inside >= INSIDE_LIMIT || nextPart >= value.count) {
        full = true;
        return;
      }
      if (type.kind == CHOICE) {
        writeChoice(type, inside);
      } else if (type.kind != TAGGED) {
        int begin = beginElement(type.tagByte(digit));
        writeContent(type, inside);
        endElement(begin);
      } else if (type.explicit) {
        int begin = beginElement(type.tagByte(digit));
        writeElement(type.inner, NONE, inside + 1);
        endElement(begin);
      } else {
        writeElement(type.inner, digit == NONE ? type.digit : digit, inside + 1);
      }
    }

    private void writeChoice(Type type, int inside) {
      Component alternative = type.memberAt(value.number[nextPart]);
      nextPart++;
      if (alternative != null) {
        writeElement(alternative.type, NONE, inside + 1);
      }
    }

    private void writeContent(Type type, int inside) {
      int part = nextPart;
      nextPart++;
      switch (type.kind) {
        case BOOLEAN:
          append(value.number[part] == 0 ? 0 : 255);
          break;
        case INTEGER:
          writeInteger(value.number[part]);
          break;
        case OCTETS:
          for (int i = 0; i < value.number[part]; i++) {
            append(value.octetAt(part, i));
          }
          break;
        case SEQUENCE:
          writeComponents(type, part, inside);
          break;
        case LIST:
          for (int i = 0; i < value.number[part]; i++) {
            writeElement(type.inner, NONE, inside + 1);
          }
          break;
        default:
          break;
      }
    }

    private void writeInteger(int n) {
      for (int shift = 8 * (Integers.byteCount(n) - 1); shift >= 0; shift -= 8) {
        append(n >> shift & 255);
      }
    }

    private void writeComponents(Type type, int part, int inside) {
      for (Component c = type.first; c != null; c = c.next) {
        if (value.shows(part, c)) {
          writeElement(c.type, NONE, inside + 1);
        } else if (c.mode == DEFAULTED) {
          nextPart++;
        }
      }
    }

    private int beginElement(int tagByte) {
      append(tagByte);
      append(0);
      return position;
    }

    private void endElement(int begin) {
      // One byte is enough: a content of more than 127 bytes does not fit.
      if (!full) {
        bytes[begin - 1] = position - begin;
      }
    }

    private void append(int b) {
      if (position >= bytes.length) {
        full = true;
        return;
      }
      bytes[position] = b;
      position++;
    }
  }

  /** Reads a value by the packed rules. */
  private static final class PackedReader {
    private final int[] bytes;
    private final Value value;
    private int bit;
    private int endBit;

    PackedReader(int[] source, Value target) {
      bytes = source;
      value = target;
    }

    boolean readAll(Type type, int start, int end) {
      bit = 8 * start;
      endBit = 8 * Math.min(end, bytes.length);
      if (!readValue(type, NONE, 0, 0)) {
        return false;
      }
      if (bit == 8 * start) {
        return takeBits(8) == 0 && bit == endBit;
      }
      return align() && bit == endBit;
    }

    private boolean readValue(Type type, int parent, int place, int inside) {
      if (type == null || inside >= INSIDE_LIMIT) {
        return false;
      }
      if (type.kind == TAGGED) {
        return readValue(type.inner, parent, place, inside + 1);
      }
      int part = value.addPart(type.kind, parent, place);
      if (part == NONE) {
        return false;
      }
      switch (type.kind) {
        case BOOLEAN:
          value.number[part] = takeBits(1);
          return value.number[part] != NONE;
        case INTEGER:
          return type.bounded ? readBounded(type, part) : readUnbounded(part);
        case OCTETS:
          return readOctets(type, part);
        case SEQUENCE:
          return readComponents(type, part, inside);
        case LIST:
          return readItems(type, part, inside);
        case CHOICE:
          return readChoice(type, part, inside);
        default:
          return true;
      }
    }

    private boolean readBounded(Type type, int part) {
      int above = takeNumber(type.high - type.low);
      value.number[part] = type.low + above;
      return above != NONE;
    }

    private boolean readUnbounded(int part) {
      int count = takeByte();
      int from = bit >> 3;
      if (bit + 8 * count > endBit || !Integers.areBytesOfOne(bytes, from, count)) {
        return false;
      }
      value.number[part] = Integers.fromBytes(bytes, from, count);
      bit += 8 * count;
      return true;
    }

    private boolean readOctets(Type type, int part) {
      int count = takeCount(type);
      if (count == NONE || (count > 0 && type.isAlignedOctets() && !align())) {
        return false;
      }
      for (int i = 0; i < count; i++) {
        int octet = takeBits(8);
        if (octet == NONE || !value.addOctet(part, octet)) {
          return false;
        }
      }
      return true;
    }

    private boolean readComponents(Type type, int part, int inside) {
      int there = takePresence(type);
      if (there == NONE) {
        return false;
      }
      for (Component c = type.first; c != null; c = c.next) {
        int child = value.count;
        if ((there >> c.index & 1) == 0) {
          if (!value.leaveOutComponent(c, part)) {
            return false;
          }
        } else if (!readValue(c.type, part, c.index, inside + 1) || !value.takeComponent(c, part, child, true)) {
          return false;
        }
      }
      return true;
    }

    /** Answers a bit for each component of which there are bits, or NONE. */
    private int takePresence(Type type) {
      int there = 0;
      for (Component c = type.first; c != null; c = c.next) {
        int present = c.mode == REQUIRED ? 1 : takeBits(1);
        if (present == NONE) {
          return NONE;
        }
        there |= present << c.index;
      }
      return there;
    }

    private boolean readItems(Type type, int part, int inside) {
      int count = takeCount(type);
      value.number[part] = count;
      for (int i = 0; i < count; i++) {
        if (!readValue(type.inner, part, i, inside + 1)) {
          return false;
        }
      }
      return count != NONE;
    }

    private boolean readChoice(Type type, int part, int inside) {
      Component alternative = type.memberRanked(takeNumber(type.memberCount - 1));
      if (alternative == null) {
        return false;
      }
      value.number[part] = alternative.index;
      return readValue(alternative.type, part, 0, inside + 1);
    }

    private int takeCount(Type type) {
      if (!type.bounded) {
        int count = takeByte();
        return count > 127 ? NONE : count;
      }
      int above = takeNumber(type.high - type.low);
      return above == NONE ? NONE : type.low + above;
    }

    /** Like all that take: NONE if there is no such thing here. */
    private int takeNumber(int highest) {
      if (highest <= 0) {
        return 0;
      }
      if (highest >= 255 && !align()) {
        return NONE;
      }
      int n = takeBits(Integers.bitsOfNumbersTo(highest));
      return n > highest ? NONE : n;
    }

    private int takeByte() {
      return align() ? takeBits(8) : NONE;
    }

    private int takeBits(int count) {
      if (bit + count > endBit) {
        return NONE;
      }
      int n = 0;
      for (int i = 0; i < count; i++) {
        n = n << 1 | bytes[bit >> 3] >> (7 - (bit & 7)) & 1;
        bit++;
      }
      return n;
    }

    private boolean align() {
      int used = bit & 7;
      if (used == 0) {
        return true;
      }
      if (bit >= endBit || (bytes[bit >> 3] & 255 >> used) != 0) {
        return false;
      }
      bit += 8 - used;
      return true;
    }
  }

  /** Writes a value by the packed rules, part behind part. */
  private static final class PackedWriter {
    private final int[] bytes;
    private final Value value;
    private int bit;
    private int nextPart;
    private boolean full;

    PackedWriter(int[] target, Value source) {
      bytes = target;
      value = source;
    }

    /** Answers where the bytes end, or NONE if they do not fit. */
    int writeAll(Type type, int start) {
      bit = 8 * start;
      nextPart = 0;
      full = false;
      writeValue(type, 0);
      if (bit == 8 * start) {
        appendBits(0, 8);
      }
      align();
      return full ? NONE : bit >> 3;
    }

    private void writeValue(Type type, int inside) {
      if (type == null || inside >= INSIDE_LIMIT || nextPart >= value.count) {
        full = true;
        return;
      }
      if (type.kind == TAGGED) {
        writeValue(type.inner, inside + 1);
        return;
      }
      int part = nextPart;
      nextPart++;
      int n = value.number[part];
      switch (type.kind) {
        case BOOLEAN:
          appendBits(n, 1);
          break;
        case INTEGER:
          writeInteger(type, n);
          break;
        case OCTETS:
          writeOctets(type, part);
          break;
        case SEQUENCE:
          writeComponents(type, part, inside);
          break;
        case LIST:
          writeItems(type, n, inside);
          break;
        case CHOICE:
          writeChoice(type, n, inside);
          break;
        default:
          break;
      }
    }

    private void writeInteger(Type type, int n) {
      if (type.bounded) {
        appendNumber(n - type.low, type.high - type.low);
        return;
      }
      int count = Integers.byteCount(n);
      align();
      appendBits(count, 8);
      appendBits(n, 8 * count);
    }

    private void writeOctets(Type type, int part) {
      appendCount(type, value.number[part]);
      if (value.number[part] > 0 && type.isAlignedOctets()) {
        align();
      }
      for (int i = 0; i < value.number[part]; i++) {
        appendBits(value.octetAt(part, i), 8);
      }
    }

    private void writeComponents(Type type, int part, int inside) {
      for (Component c = type.first; c != null; c = c.next) {
        if (c.mode != REQUIRED) {
          appendBits(value.shows(part, c) ? 1 : 0, 1);
        }
      }
      for (Component c = type.first; c != null; c = c.next) {
        if (value.shows(part, c)) {
          writeValue(c.type, inside + 1);
        } else if (c.mode == DEFAULTED) {
          nextPart++;
        }
      }
    }

    private void writeItems(Type type, int count, int inside) {
      appendCount(type, count);
      for (int i = 0; i < count; i++) {
        writeValue(type.inner, inside + 1);
      }
    }

    private void writeChoice(Type type, int index, int inside) {
      Component alternative = type.memberAt(index);
      if (alternative != null) {
        appendNumber(alternative.rank, type.memberCount - 1);
        writeValue(alternative.type, inside + 1);
      }
    }

    private void appendCount(Type type, int count) {
      if (type.bounded) {
        appendNumber(count - type.low, type.high - type.low);
        return;
      }
      align();
      appendBits(count, 8);
    }

    private void appendNumber(int n, int highest) {
      if (highest >= 255) {
        align();
      }
      appendBits(n, Integers.bitsOfNumbersTo(highest));
    }

    private void appendBits(int n, int count) {
      if (bit + count > 8 * bytes.length) {
        full = true;
        return;
      }
      for (int i = count - 1; i >= 0; i--) {
        int left = 7 - (bit & 7);
        if (left == 7) {
          bytes[bit >> 3] = 0;
        }
        bytes[bit >> 3] |= (n >> i & 1) << left;
        bit++;
      }
    }

    private void align() {
      // The bits that are passed over are 0: a byte is emptied with its first bit.
      bit = bit + 7 & ~7;
    }
  }
}
