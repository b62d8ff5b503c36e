import java.lang.reflect.Constructor;
import java.lang.reflect.Field;
import java.lang.reflect.Method;
import java.lang.reflect.Modifier;
import java.nio.file.Files;
import java.nio.file.Path;
import java.util.HashSet;
import java.util.List;
import java.util.Set;
import java.util.TreeSet;

/** The public face of the document, and the rules of LANGUAGE.md that can be seen from outside. */
public final class FaceTest {
    private static final List<String> FACE = List.of(
        "boolean frames(int)", "boolean act(int,int)", "boolean write(int,int,int)", "boolean add(int,int,int)",
        "int save(int)", "int back(int,int)", "int roll(int,int)", "boolean keep(int,int)", "boolean crash(int)",
        "int recover(int)", "int feed(int,int,int,int,int)", "boolean end(int)", "int plan()", "int fault(int)",
        "int run(int)", "int at(int,int)", "int page(int,int)", "int tx(int,int)", "int log(int)",
        "int record(int,int)", "int would(int,int,int)", "int victim()", "int ship(int)", "int stand(int,int)",
        "int asOf(int,int)", "int count(int)", "boolean image(boolean)", "int look(int)");

    public static void main(String[] args) throws Exception {
        Class<?> c = AheadStore.class;
        Due.yes("the class is public and final",
            Modifier.isPublic(c.getModifiers()) && Modifier.isFinal(c.getModifiers()));
        Constructor<?>[] made = c.getDeclaredConstructors();
        Due.is("constructors", made.length, 1);
        Due.yes("the constructor is public, without arguments",
            Modifier.isPublic(made[0].getModifiers()) && made[0].getParameterCount() == 0);
        Due.is("NONE", AheadStore.NONE, -1);
        methods(c);
        fields(c);
        Due.yes("at most twelve classes", c.getDeclaredClasses().length < 12);
        for (Class<?> inside : c.getDeclaredClasses()) {
            Due.yes(inside + " is static", Modifier.isStatic(inside.getModifiers()));
            Due.no(inside + " is seen", Modifier.isPublic(inside.getModifiers()) || Modifier.isProtected(inside.getModifiers()));
            noFaceNames(inside);
            fields(inside);
        }
        text();
        Due.end("FaceTest");
    }

    private static void methods(Class<?> c) {
        Set<String> seen = new TreeSet<>();
        Set<String> names = new HashSet<>();
        for (Method m : c.getDeclaredMethods()) {
            if (Modifier.isPublic(m.getModifiers())) {
                StringBuilder b = new StringBuilder();
                for (Class<?> p : m.getParameterTypes()) {
                    b.append(b.length() == 0 ? "" : ",").append(p.getName());
                }
                seen.add(m.getReturnType().getName() + " " + m.getName() + "(" + b + ")");
                names.add(m.getName());
            } else {
                Due.yes(m + " is private", Modifier.isPrivate(m.getModifiers()));
            }
        }
        Due.yes("the face is " + seen, seen.equals(new TreeSet<>(FACE)));
        for (Method m : c.getDeclaredMethods()) {
            Due.no(m + " bears a name of the face", !Modifier.isPublic(m.getModifiers()) && names.contains(m.getName()));
        }
    }

    private static void noFaceNames(Class<?> inside) {
        for (Method m : inside.getDeclaredMethods()) {
            for (String one : FACE) {
                Due.no(m + " bears a name of the face", one.contains(" " + m.getName() + "("));
            }
            Due.yes(m + " has at most seven parameters", m.getParameterCount() <= 7);
        }
    }

    private static void fields(Class<?> c) {
        int own = 0;
        for (Field f : c.getDeclaredFields()) {
            int is = f.getModifiers();
            if (Modifier.isStatic(is)) {
                Due.yes(f + " is final", Modifier.isFinal(is));
            } else {
                own++;
            }
            Due.no(f + " is public", Modifier.isPublic(is) && !f.getName().equals("NONE"));
        }
        Due.yes(c + " has at most twenty fields", own <= 20);
    }

    private static void text() throws Exception {
        String all = Files.readString(Path.of("src/main/java/AheadStore.java"));
        String code = all.replaceAll("(?s)/\\*.*?\\*/", "").replaceAll("//[^\n]*", "").replaceAll("\"[^\"\n]*\"", "\"\"");
        for (String word : List.of("throw", "throws", "try", "catch", "synchronized", "assert", "Random", "Thread",
            "->", "::", "System.out", "Exact")) {
            boolean plain = Character.isLetter(word.charAt(0));
            Due.no("the class uses " + word,
                plain ? code.matches("(?s).*\\b" + word.replace(".", "\\.") + "\\b.*") : code.contains(word));
        }
        Due.is("imports", code.split("\nimport ", -1).length + (code.startsWith("import ") ? 1 : 0), 2);
        Due.no("a sign beyond 127", all.chars().anyMatch(sign -> sign > 126));
    }
}
