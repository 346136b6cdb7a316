import java.lang.reflect.Constructor;
import java.lang.reflect.Field;
import java.lang.reflect.Method;
import java.lang.reflect.Modifier;
import java.util.Arrays;
import java.util.Set;
import java.util.TreeSet;

/** The face has what the document names and nothing else. */
public final class FaceTest {
  private static final String[] FACE = {
    "int feed(int,int,int,int,int) IllegalStateException", "int trim(int) IllegalArgumentException", "int teach()", "int errorAt()",
    "int count(int) IndexOutOfBoundsException", "int lane(int,int) IndexOutOfBoundsException", "int pail(int,int) IndexOutOfBoundsException",
    "int folk(int,int) IndexOutOfBoundsException", "int lender(int) IndexOutOfBoundsException", "int common(int,int) IndexOutOfBoundsException",
    "int eldest()", "int bring(int,int) IndexOutOfBoundsException IllegalArgumentException",
    "int give(int,int) IndexOutOfBoundsException IllegalArgumentException", "int setRate(int,int) IndexOutOfBoundsException IllegalArgumentException",
    "int setMost(int,int) IndexOutOfBoundsException IllegalArgumentException", "int setWell(int) IllegalArgumentException",
    "int pass(int) IllegalArgumentException", "int until(int) IndexOutOfBoundsException",
    "int foresee(int,int) IllegalArgumentException IndexOutOfBoundsException", "int advise(int) IllegalArgumentException", "double mean()", "long digest()"};

  public static void main(String[] args) {
    Class<?> x = BucketBrigade.class;
    Set<String> got = new TreeSet<>();
    Set<String> names = new TreeSet<>();
    for (Method m : x.getDeclaredMethods()) {
      if (Modifier.isPrivate(m.getModifiers())) continue;
      names.add(m.getName());
      StringBuilder line = new StringBuilder(m.getReturnType() + " " + m.getName() + "(");
      for (int i = 0; i < m.getParameterCount(); i++) line.append(i > 0 ? "," : "").append(m.getParameterTypes()[i]);
      line.append(")");
      for (Class<?> e : m.getExceptionTypes()) line.append(" ").append(e.getSimpleName());
      Bench.due("modifiers of " + line, m.getModifiers(), Modifier.PUBLIC);
      got.add(line.toString());
    }
    Set<String> want = new TreeSet<>(Arrays.asList(FACE));
    if (!got.equals(want)) System.out.println("the face is " + got);
    Bench.due("the face is as the document has it", got.equals(want) ? 1 : 0, 1);
    Bench.due("the class is public and final", x.getModifiers(), Modifier.PUBLIC | Modifier.FINAL);
    Bench.due("constructors", x.getDeclaredConstructors().length, 1);
    for (Constructor<?> c : x.getDeclaredConstructors()) Bench.due("the constructor is public", c.getModifiers(), Modifier.PUBLIC);
    for (Field f : x.getDeclaredFields()) Bench.due("private field " + f.getName(), f.getModifiers() & Modifier.PRIVATE, Modifier.PRIVATE);
    inside(x, names);
    Bench.end();
  }

  private static void inside(Class<?> x, Set<String> names) {
    for (Class<?> c : x.getDeclaredClasses()) {
      Bench.due(c.getName() + " is not public or protected", c.getModifiers() & (Modifier.PUBLIC | Modifier.PROTECTED), 0);
      for (Method m : c.getDeclaredMethods()) Bench.due(m + " bears no name of the face", names.contains(m.getName()) ? 1 : 0, 0);
    }
  }
}
