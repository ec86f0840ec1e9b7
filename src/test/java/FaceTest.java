import java.lang.reflect.Method;
import java.lang.reflect.Modifier;
import java.util.HashSet;
import java.util.Set;
import java.util.TreeSet;

/** The public face of the document, and rule 1 of LANGUAGE.md: no more than that can be seen. */
public final class FaceTest {
  private static final Due DUE = new Due();

  private static final String[] FACE = {
    "int about(int,int)", "int barn(int)", "int best()", "int buyer(int,int,int)", "int candle(int,int,int)",
    "int copy(int,int,int,int,int)", "int count(int)", "int cut(int)", "int day(int)", "int dry(int)",
    "int keep(int,int,int)", "int look(int,int)", "int lots(int)", "int lotter(int)", "int make(int,int,int)",
    "int order(int)", "int pays(int,int)", "int plot(int,int,int)", "int purse(int,int)", "int rain(int,boolean)",
    "int ring()", "int step(int)", "int surety(int,int)", "int tithe(int)", "int toss(int)", "int waits(int,boolean)",
    "int way(int)", "int weight(int)", "int wins(int,int,int)", "int worth(int,int)", "long element(int,int)"};

  public static void main(String[] args) throws NoSuchMethodException {
    Class<?> face = CandleMeadow.class;
    DUE.is("public", face.getModifiers() & Modifier.PUBLIC, Modifier.PUBLIC);
    DUE.is("final", face.getModifiers() & Modifier.FINAL, Modifier.FINAL);
    methods(face);
    DUE.is("constructors", face.getDeclaredConstructors().length, 1);
    DUE.is("public constructors", face.getConstructors().length, 1);
    for (java.lang.reflect.Field field : face.getDeclaredFields()) {
      DUE.is("private: " + field.getName(), field.getModifiers() & Modifier.PRIVATE, Modifier.PRIVATE);
    }
    for (Class<?> inside : face.getDeclaredClasses()) {
      DUE.is("static and not to be seen: " + inside.getName(),
          inside.getModifiers() & (Modifier.STATIC | Modifier.PUBLIC | Modifier.PROTECTED), Modifier.STATIC);
    }
    Class<?>[] thrown = face.getMethod("element", int.class, int.class).getExceptionTypes();
    DUE.is("element names two exceptions", thrown.length, 2);
    DUE.end();
  }

  private static void methods(Class<?> face) {
    Set<String> seen = new TreeSet<>();
    Set<String> names = new HashSet<>();
    for (Method method : face.getDeclaredMethods()) {
      if (!Modifier.isPrivate(method.getModifiers())) {
        seen.add(told(method));
        names.add(method.getName());
      }
    }
    Set<String> due = new TreeSet<>(java.util.List.of(FACE));
    DUE.says("face", seen.toString(), due.toString());
    for (Method method : face.getDeclaredMethods()) {
      if (Modifier.isPrivate(method.getModifiers())) {
        DUE.is("private with a public name: " + method.getName(), names.contains(method.getName()) ? 1 : 0, 0);
      }
    }
  }

  private static String told(Method method) {
    StringBuilder text = new StringBuilder();
    text.append(method.getReturnType().getSimpleName()).append(' ').append(method.getName()).append('(');
    String comma = "";
    for (Class<?> type : method.getParameterTypes()) {
      text.append(comma).append(type.getSimpleName());
      comma = ",";
    }
    return text.append(')').toString();
  }
}
