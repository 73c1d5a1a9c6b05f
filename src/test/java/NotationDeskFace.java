import java.lang.reflect.Constructor;
import java.lang.reflect.Field;
import java.lang.reflect.Method;
import java.lang.reflect.Modifier;
import java.util.Arrays;
import java.util.Set;
import java.util.TreeSet;

/** The public face is the document's, and nothing but nested classes can be seen beside it. */
public final class NotationDeskFace {
  private static final String[] FACE = {
    "public static final int NotationDesk.NONE",
    "public NotationDesk()",
    "public boolean NotationDesk.type(char)",
    "public int NotationDesk.clear()",
    "public int NotationDesk.compile()",
    "public boolean NotationDesk.put(long,int)",
    "public int NotationDesk.wipe()",
    "public int NotationDesk.at(int) throws java.lang.IndexOutOfBoundsException",
    "public int NotationDesk.transcode(char,int,int) throws java.lang.IllegalArgumentException,"
        + "java.lang.IllegalStateException,java.util.NoSuchElementException,"
        + "java.lang.UnsupportedOperationException",
    "public int NotationDesk.parts()",
    "public int NotationDesk.part(int,int) throws java.lang.IllegalArgumentException,"
        + "java.util.NoSuchElementException",
    "public int NotationDesk.octet(int,int) throws java.util.NoSuchElementException",
    "public void NotationDesk.operation(int,char,int,int) throws java.lang.IllegalArgumentException,"
        + "java.lang.IllegalStateException,java.util.NoSuchElementException",
    "public int NotationDesk.serve() throws java.lang.IllegalStateException",
  };

  private static int wrong = 0;

  private static void complain(String what) {
    wrong++;
    System.out.println(what);
  }

  private static void compareFace() {
    Set<String> seen = new TreeSet<>();
    for (Field f : NotationDesk.class.getDeclaredFields()) {
      if (!Modifier.isPrivate(f.getModifiers())) {
        seen.add(f.toString());
      }
      if (Modifier.isStatic(f.getModifiers()) && !Modifier.isFinal(f.getModifiers())) {
        complain("a static field that is not final: " + f);
      }
    }
    for (Constructor<?> c : NotationDesk.class.getDeclaredConstructors()) {
      seen.add(c.toString());
    }
    for (Method m : NotationDesk.class.getDeclaredMethods()) {
      if (!Modifier.isPrivate(m.getModifiers())) {
        seen.add(m.toString());
      }
    }
    Set<String> due = new TreeSet<>(Arrays.asList(FACE));
    if (!seen.equals(due)) {
      complain("the face is " + seen + ", due is " + due);
    }
    if (!Modifier.isFinal(NotationDesk.class.getModifiers()) || !Modifier.isPublic(NotationDesk.class.getModifiers())) {
      complain("the class is not public and final");
    }
  }

  private static void comparePrivateNames() {
    Set<String> open = new TreeSet<>();
    for (Method m : NotationDesk.class.getDeclaredMethods()) {
      if (Modifier.isPublic(m.getModifiers())) {
        open.add(m.getName());
      }
    }
    for (Method m : NotationDesk.class.getDeclaredMethods()) {
      if (Modifier.isPrivate(m.getModifiers()) && open.contains(m.getName())) {
        complain("a private method with a public name: " + m);
      }
    }
  }

  private static void compareInside() {
    for (Class<?> c : NotationDesk.class.getDeclaredClasses()) {
      int m = c.getModifiers();
      if (!Modifier.isStatic(m) || Modifier.isPublic(m) || Modifier.isProtected(m)) {
        complain("a class inside that is not static and closed: " + c);
      }
      for (Field f : c.getDeclaredFields()) {
        if (Modifier.isStatic(f.getModifiers()) && !Modifier.isFinal(f.getModifiers())) {
          complain("a static field that is not final: " + f);
        }
      }
    }
  }

  public static void main(String[] args) {
    compareFace();
    comparePrivateNames();
    compareInside();
    if (NotationDesk.NONE != -1) {
      complain("NONE is " + NotationDesk.NONE);
    }
    System.out.println(wrong == 0 ? "the face is as due" : wrong + " things are not as due");
    if (wrong != 0) {
      System.exit(1);
    }
  }
}
