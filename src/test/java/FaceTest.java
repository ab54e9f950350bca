import java.lang.reflect.Constructor;
import java.lang.reflect.Field;
import java.lang.reflect.Method;
import java.lang.reflect.Modifier;
import java.util.Arrays;
import java.util.Set;
import java.util.TreeSet;

/** The public face: what the document lists, and no other member that can be seen from outside. */
public final class FaceTest {
  private static final String[] FACE = {
    "int stuff(int,int)", "int rule(int,int)", "int thrower(int,int)", "int of(int,int)",
    "int change(int,int,int)", "int walk(int,int)", "int told(int,int,int,int)",
    "int falls(int,int,int,boolean)", "int next(int)", "int letter(int)", "int where(int)",
    "int take(int)", "int hours(int)", "int letters(int)", "long odds(int,int,int)",
    "long lost(int,int)", "int likeliest(int,int)", "int fewest(int)", "int free(int)",
    "int may(int,int)", "long best(int,int)", "int choose(int,int)", "int plan(int,int)",
    "int set(int)", "int missed(int,int)", "int stand(int,int)", "int fetchFor(int,int)",
    "long copies(int,int)", "int whose(int,int)", "int from(int,int)", "int thief(int,int)",
    "int gifts()", "int seed(int)", "int feed(int,int)", "int wipe()", "int text()",
    "int hold(int,int)", "int as(int,int)", "int sheet(int,int,int)", "int write(int,int,int)",
    "int copy(int,int,int,int,int)", "int load(int)", "int judge(int,int)", "int image()",
    "int undo()", "int tear()", "int count(int)", "int status(int)"
  };

  public static void main(String[] args) {
    Class<StonePost> face = StonePost.class;
    Due.isTrue("public final", Modifier.isPublic(face.getModifiers()) && Modifier.isFinal(face.getModifiers()));
    Set<String> due = new TreeSet<>(Arrays.asList(FACE));
    Set<String> got = new TreeSet<>();
    Set<String> names = new TreeSet<>();
    for (Method m : face.getDeclaredMethods()) {
      if (!Modifier.isPrivate(m.getModifiers())) {
        got.add(signature(m));
        names.add(m.getName());
        Due.isTrue(m + " is public and no static one",
            Modifier.isPublic(m.getModifiers()) && !Modifier.isStatic(m.getModifiers()));
      }
    }
    Due.isTrue("the face " + got + " is " + due, got.equals(due));
    for (Method m : face.getDeclaredMethods()) {
      Due.isTrue("private " + m.getName() + " bears no public name",
          !Modifier.isPrivate(m.getModifiers()) || !names.contains(m.getName()));
    }
    for (Field f : face.getDeclaredFields()) {
      Due.isTrue("field " + f + " is private", Modifier.isPrivate(f.getModifiers()));
    }
    Constructor<?>[] made = face.getDeclaredConstructors();
    Due.isTrue("one public constructor without arguments", made.length == 1
        && Modifier.isPublic(made[0].getModifiers()) && made[0].getParameterCount() == 0);
    Due.end();
  }

  private static String signature(Method m) {
    StringBuilder b = new StringBuilder(m.getReturnType().getName()).append(' ').append(m.getName()).append('(');
    for (int i = 0; i < m.getParameterCount(); i++) {
      b.append(i == 0 ? "" : ",").append(m.getParameterTypes()[i].getName());
    }
    return b.append(')').toString();
  }
}
