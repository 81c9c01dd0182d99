import java.io.IOException;
import java.lang.reflect.Constructor;
import java.lang.reflect.Field;
import java.lang.reflect.Method;
import java.lang.reflect.Modifier;
import java.nio.file.Files;
import java.nio.file.Path;
import java.util.ArrayList;
import java.util.Arrays;
import java.util.List;
import java.util.Set;
import java.util.TreeSet;

/**
 * The public face: every signature of the document, and nothing beside it. The first argument is
 * the project's folder.
 */
public final class FaceTest {
  private static final Due due = new Due();

  /** Every signature, in the document's order. */
  static final String[] FACE = {
    "int wind(int place, int v)", "int weight(int mast, int v)", "int raise(int mast)",
    "int mastOf(int mast, int what)", "int now(int what)", "int knot(int kind, int mast)",
    "int of(int knot, int what)", "int set(int knot, int what, int v)",
    "int turn(int knot, int kind)", "int as(int knot, int kind)", "int tease(int knot)",
    "int tie(int knot)", "int cast(int knot)", "int hours(int n)",
    "int on(int knot, int n, int what)", "int then(int n, int what)", "int falls(int mast)",
    "int gives(int knot)", "int best(int mast)", "int kind(int knot)", "int open(int knot, int n)",
    "int bears(int mast, int n)", "int move(int knot, int n)", "int calm(int n)",
    "int firmest(int n)", "int feed(int bytes, int n)", "int wipe()", "int yard()",
    "int sheet(int s, int bits, int n)", "long write(int s, int i, long v)",
    "int copy(int s, int from, int t, int to, int n)", "int lays(int s)",
    "int book(int s, int knot)", "int read(int s, int knot)", "int image()", "int undo()",
    "int tear()", "int count(int what)", "int status(int which)",
  };

  public static void main(String[] args) throws IOException {
    documented(Path.of(args.length > 0 ? args[0] : ".").resolve("../shared/DOC.md"));
    Class<?> face = TalkKnots.class;
    int wanted = Modifier.PUBLIC | Modifier.FINAL;
    due.is("public and final", face.getModifiers(), wanted);
    due.holds("no other class above it", face.getSuperclass() == Object.class);
    due.is("interfaces", face.getInterfaces().length, 0);
    constructors(face);
    methods(face);
    for (Field field : face.getDeclaredFields()) {
      due.holds("private: " + field, Modifier.isPrivate(field.getModifiers()));
    }
    for (Class<?> inner : face.getDeclaredClasses()) {
      due.holds("static: " + inner, Modifier.isStatic(inner.getModifiers()));
      due.holds("not public: " + inner, !Modifier.isPublic(inner.getModifiers()));
      innerNames(inner);
    }
    due.end();
  }

  /** FACE is the document's own (where the document can be found). */
  private static void documented(Path document) throws IOException {
    if (!Files.isReadable(document)) {
      System.out.println("there is no " + document + " to hold the face against");
      return;
    }
    List<String> found = new ArrayList<>();
    boolean inside = false;
    for (String line : Files.readAllLines(document)) {
      inside = inside ? !line.equals("}") : line.equals("public final class TalkKnots {");
      if (inside && line.matches("    public (int|long) \\w+\\(.*\\);")) {
        found.add(line.substring("    public ".length(), line.length() - 1));
      }
    }
    due.holds("the document's face is " + found, found.equals(Arrays.asList(FACE)));
  }

  private static void constructors(Class<?> face) {
    Constructor<?>[] all = face.getDeclaredConstructors();
    due.is("constructors", all.length, 1);
    due.is("its parameters", all[0].getParameterCount(), 0);
    due.holds("it is public", Modifier.isPublic(all[0].getModifiers()));
  }

  private static void methods(Class<?> face) {
    Set<String> found = new TreeSet<>();
    for (Method method : face.getDeclaredMethods()) {
      if (Modifier.isPublic(method.getModifiers())) {
        found.add(told(method));
        due.holds("not static: " + method, !Modifier.isStatic(method.getModifiers()));
        due.is("exceptions of " + method, method.getExceptionTypes().length, 0);
      } else {
        due.holds("private: " + method, Modifier.isPrivate(method.getModifiers()));
        due.holds("no public one's name: " + method, !publicNames().contains(method.getName()));
      }
    }
    Set<String> wanted = new TreeSet<>();
    for (String signature : FACE) {
      wanted.add(signature.replaceAll("\\b(int|long) \\w+(?=[,)])", "$1"));
    }
    due.holds("the face is " + found, found.equals(wanted));
  }

  private static void innerNames(Class<?> inner) {
    for (Method method : inner.getDeclaredMethods()) {
      due.holds("no public one's name: " + method, !publicNames().contains(method.getName()));
    }
  }

  private static Set<String> publicNames() {
    Set<String> names = new TreeSet<>();
    for (String signature : FACE) {
      names.add(signature.substring(signature.indexOf(' ') + 1, signature.indexOf('(')));
    }
    return names;
  }

  private static String told(Method method) {
    List<String> types = new ArrayList<>();
    for (Class<?> type : method.getParameterTypes()) {
      types.add(type.getName());
    }
    return method.getReturnType() + " " + method.getName() + "(" + String.join(", ", types) + ")";
  }
}
