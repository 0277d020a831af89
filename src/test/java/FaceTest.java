import java.lang.reflect.Constructor;
import java.lang.reflect.Field;
import java.lang.reflect.Method;
import java.lang.reflect.Modifier;
import java.util.Arrays;
import java.util.Set;
import java.util.TreeSet;

/** The class has the document's face and no other member that can be seen, and no call makes an object. */
public final class FaceTest {
  private static final Set<String> METHODS = new TreeSet<>(Arrays.asList(
      "boolean number(long)", "boolean blob(boolean,int,long)", "void clear()", "int insert(int)", "int remove(int)",
      "int commit()", "boolean undo()", "boolean crash()", "boolean arm(int)", "int open()",
      "boolean spoil(int,int,int)", "int rows()", "int key(int)", "int columns(int)", "int code(int,int)",
      "long value(int,int,int)", "int octet(int,int,boolean)", "int journal(int)"));

  public static void main(String[] args) {
    Class<?> type = RowFile.class;
    Due.due("public and final", true, Modifier.isPublic(type.getModifiers()) && Modifier.isFinal(type.getModifiers()));
    methods(type);
    fields(type);
    Constructor<?>[] constructors = type.getDeclaredConstructors();
    Due.due("one constructor", 1, constructors.length);
    Due.due("without parameters", 0, constructors[0].getParameterCount());
    Due.due("public", true, Modifier.isPublic(constructors[0].getModifiers()));
    for (Class<?> inside : type.getDeclaredClasses()) {
      boolean hidden = !Modifier.isPublic(inside.getModifiers()) && !Modifier.isProtected(inside.getModifiers());
      Due.due(inside.getName() + " is hidden and static", true, hidden && Modifier.isStatic(inside.getModifiers()));
      noFaceNames(inside);
    }
    makesNothing();
    Due.end();
  }

  private static void methods(Class<?> type) {
    Set<String> seen = new TreeSet<>();
    Set<String> hidden = new TreeSet<>();
    for (Method method : type.getDeclaredMethods()) {
      StringBuilder text = new StringBuilder(method.getReturnType() + " " + method.getName() + "(");
      for (Class<?> parameter : method.getParameterTypes()) {
        text.append(text.charAt(text.length() - 1) == '(' ? "" : ",").append(parameter);
      }
      if (Modifier.isPrivate(method.getModifiers())) hidden.add(method.getName());
      else seen.add(text.append(')').toString());
    }
    System.out.println(seen.equals(METHODS) ? "the methods are as due" : "not the methods of the document: " + seen);
    Due.due("the methods of the document", true, seen.equals(METHODS));
    for (String method : METHODS) {
      String name = method.substring(method.indexOf(' ') + 1, method.indexOf('('));
      Due.due("a private method named " + name, false, hidden.contains(name));
    }
  }

  private static void noFaceNames(Class<?> inside) {
    for (Method method : inside.getDeclaredMethods()) {
      for (String face : METHODS) {
        Due.due(inside.getName() + " has " + method.getName(), false, face.contains(" " + method.getName() + "("));
      }
    }
  }

  private static void fields(Class<?> type) {
    Set<String> seen = new TreeSet<>();
    for (Field field : type.getDeclaredFields()) {
      int modifiers = field.getModifiers();
      if (!Modifier.isPrivate(modifiers)) {
        Due.due(field.getName() + " is a constant", true,
            Modifier.isPublic(modifiers) && Modifier.isStatic(modifiers) && Modifier.isFinal(modifiers));
        Due.due(field.getName() + " is an int", true, field.getType() == int.class);
        seen.add(field.getName());
      }
    }
    Due.due("the constants of the document", true, seen.equals(new TreeSet<>(Arrays.asList("NONE", "FULL", "DOWN"))));
  }

  /** All calls of a run live in one room, so what an object needs is made with it. */
  private static void makesNothing() {
    com.sun.management.ThreadMXBean threads =
        (com.sun.management.ThreadMXBean) java.lang.management.ManagementFactory.getThreadMXBean();
    long thread = Thread.currentThread().getId();
    RowFile warm = new RowFile();
    useAll(warm);
    threads.getThreadAllocatedBytes(thread);
    RowFile file = new RowFile();
    long before = threads.getThreadAllocatedBytes(thread);
    useAll(file);
    long made = threads.getThreadAllocatedBytes(thread) - before;
    Due.due("bytes made by the calls, 1000 or less", true, made <= 1000);
    before = threads.getThreadAllocatedBytes(thread);
    warm = new RowFile();
    made = threads.getThreadAllocatedBytes(thread) - before;
    Due.due("bytes made with the object, 12000 or less", true, made <= 12000);
    Due.due("it is new", 0, warm.rows());
  }

  private static void useAll(RowFile file) {
    file.number(70000);
    for (int i = 0; i < 15; i++) file.blob(i == 0, 8, i);
    file.blob(false, 8, 5);
    for (int i = 0; i < 10; i++) file.blob(true, 8, i);
    for (int key = 0; key < 40; key++) file.insert(key * 1000);
    file.arm(9);
    file.commit();
    file.open();
    for (int key = 0; key < 40; key++) file.insert(key * 1000);
    file.commit();
    for (int i = 0; i < 40; i++) {
      file.value(file.key(i), 1, i);
      file.code(file.key(i), 1);
      file.columns(file.key(i));
      file.octet(i, i, i % 2 == 0);
      file.journal(i);
    }
    for (int key = 0; key < 40; key += 2) file.remove(key * 1000);
    file.undo();
    file.rows();
    file.crash();
    file.spoil(1, 5, 5);
    file.open();
    file.clear();
  }
}
