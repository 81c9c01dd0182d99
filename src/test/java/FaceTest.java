import java.io.IOException;
import java.lang.reflect.Constructor;
import java.lang.reflect.Field;
import java.lang.reflect.Method;
import java.lang.reflect.Modifier;
import java.nio.file.Files;
import java.nio.file.Path;
import java.util.ArrayList;
import java.util.Arrays;
import java.util.List;
import java.util.Set;
import java.util.TreeSet;

/**
 * The public face: every signature of the document, and nothing beside it. The first argument is
 * the project's folder.
 */
public final class FaceTest {
  private static final Due due = new Due();

  private static final String[] FACE = {
    "int wind(int, int)", "int weight(int, int)", "int raise(int)", "int mastOf(int, int)",
    "int now(int)", "int knot(int, int)", "int of(int, int)", "int set(int, int, int)",
    "int turn(int, int)", "int as(int, int)", "int tease(int)", "int tie(int)", "int cast(int)",
    "int hours(int)", "int on(int, int, int)", "int then(int, int)", "int falls(int)",
    "int gives(int)", "int best(int)", "int kind(int)", "int open(int, int)",
    "int bears(int, int)", "int move(int, int)", "int calm(int)", "int firmest(int)",
    "int feed(int, int)", "int wipe()", "int yard()", "int sheet(int, int, int)",
    "long write(int, int, long)", "int copy(int, int, int, int, int)", "int lays(int)",
    "int book(int, int)", "int read(int, int)", "int image()", "int undo()", "int tear()",
    "int count(int)", "int status(int)",
  };

  public static void main(String[] args) throws IOException {
    documented(Path.of(args.length > 0 ? args[0] : "."));
    Class<?> face = TalkKnots.class;
    int wanted = Modifier.PUBLIC | Modifier.FINAL;
    due.is("public and final", face.getModifiers(), wanted);
    due.holds("no other class above it", face.getSuperclass() == Object.class);
    due.is("interfaces", face.getInterfaces().length, 0);
    constructors(face);
    methods(face);
    for (Field field : face.getDeclaredFields()) {
      due.holds("private: " + field, Modifier.isPrivate(field.getModifiers()));
    }
    for (Class<?> inner : face.getDeclaredClasses()) {
      due.holds("static: " + inner, Modifier.isStatic(inner.getModifiers()));
      due.holds("not public: " + inner, !Modifier.isPublic(inner.getModifiers()));
      innerNames(inner);
    }
    due.end();
  }

  /** The signatures of the document's 'public face', in its order, without the constructor. */
  static List<String> signatures(Path root) throws IOException {
    List<String> all = new ArrayList<>();
    boolean inside = false;
    for (String line : Files.readAllLines(root.resolve("../shared/DOC.md"))) {
      inside = inside ? !line.equals("}") : line.equals("public final class TalkKnots {");
      if (inside && line.matches("    public (int|long) \\w+\\(.*\\);")) {
        all.add(line.substring("    public ".length(), line.length() - 1));
      }
    }
    return all;
  }

  /** FACE is the document's own. */
  private static void documented(Path root) throws IOException {
    List<String> found = new ArrayList<>();
    for (String signature : signatures(root)) {
      found.add(signature.replaceAll("\\b(int|long) \\w+(?=[,)])", "$1"));
    }
    due.holds("the document's face is " + found, found.equals(Arrays.asList(FACE)));
  }

  private static void constructors(Class<?> face) {
    Constructor<?>[] all = face.getDeclaredConstructors();
    due.is("constructors", all.length, 1);
    due.is("its parameters", all[0].getParameterCount(), 0);
    due.holds("it is public", Modifier.isPublic(all[0].getModifiers()));
  }

  private static void methods(Class<?> face) {
    Set<String> found = new TreeSet<>();
    for (Method method : face.getDeclaredMethods()) {
      if (Modifier.isPublic(method.getModifiers())) {
        found.add(told(method));
        due.holds("not static: " + method, !Modifier.isStatic(method.getModifiers()));
        due.is("exceptions of " + method, method.getExceptionTypes().length, 0);
      } else {
        due.holds("private: " + method, Modifier.isPrivate(method.getModifiers()));
        due.holds("no public one's name: " + method, !publicNames().contains(method.getName()));
      }
    }
    due.holds("the face is " + found, found.equals(new TreeSet<>(Arrays.asList(FACE))));
  }

  private static void innerNames(Class<?> inner) {
    for (Method method : inner.getDeclaredMethods()) {
      due.holds("no public one's name: " + method, !publicNames().contains(method.getName()));
    }
  }

  private static Set<String> publicNames() {
    Set<String> names = new TreeSet<>();
    for (String signature : FACE) {
      names.add(signature.substring(signature.indexOf(' ') + 1, signature.indexOf('(')));
    }
    return names;
  }

  private static String told(Method method) {
    List<String> types = new ArrayList<>();
    for (Class<?> type : method.getParameterTypes()) {
      types.add(type.getName());
    }
    return method.getReturnType() + " " + method.getName() + "(" + String.join(", ", types) + ")";
  }
}
