import java.lang.reflect.Constructor;
import java.lang.reflect.Field;
import java.lang.reflect.Method;
import java.lang.reflect.Modifier;
import java.nio.file.Files;
import java.nio.file.Path;
import java.util.Set;
import java.util.TreeSet;
import java.util.regex.Matcher;
import java.util.regex.Pattern;

/** The document's face, and those rules of ../shared/LANGUAGE.md that the source shows plainly. */
public final class FaceTest {
    private static final String[] FACE = {
        "int moor(int,int,int,int)", "int ofPerson(int,int)", "int post(int)", "int lax(int)",
        "int bathe(int,int)", "int moves(int,int)", "int send(int)", "int comes(int)",
        "int round(int,int,int,int,int)", "int strict(int)", "int site(int)", "int order(int)",
        "int ahead(int)", "int reading(int,int)", "int back(int)", "int smells(int)", "int pasts(int)",
        "int kinds(int)", "long odds(int,int)", "int sheet(int,int,int)", "int lose(int)",
        "int put(int,int,int)", "long cell(int,int,int)", "int copy(int,int,int,int,int)", "int tell(int)",
        "int whistle(int)", "int as(int,int)", "int trace()", "int fault()", "int many(int)",
        "int UNKNOWN", "int OUTSIDE", "int STATE", "int FULL", "int NONE", "long LOST", "NosePost()"};
    private static final String[] FORBIDDEN = {
        "\\b(throw|try|catch|synchronized|assert|import|package|record|protected)\\b", "->", "::",
        "\\b(equals|hashCode|toString|System\\.(?!arraycopy)\\w+)\\b", "\\w+Exact\\b", "static *\\{"};

    private static final Checks CHECKS = new Checks();

    public static void main(String[] args) throws Exception {
        face();
        limits();
        source(Files.readString(Path.of(args[0])));
        CHECKS.end("FaceTest");
    }

    private static void face() {
        Set<String> shown = new TreeSet<>();
        Set<String> hidden = new TreeSet<>();
        Set<String> open = new TreeSet<>();
        for (Method m : NosePost.class.getDeclaredMethods()) {
            if (Modifier.isPublic(m.getModifiers())) {
                open.add(m.getName());
                shown.add(m.getReturnType() + " " + m.getName() + types(m.getParameterTypes()));
            } else {
                CHECKS.holds(m + " is private", Modifier.isPrivate(m.getModifiers()));
                hidden.add(m.getName());
            }
        }
        hidden.retainAll(open);
        CHECKS.holds("private methods with the name of a public one: " + hidden, hidden.isEmpty());
        for (Field f : NosePost.class.getDeclaredFields()) {
            CHECKS.holds(f + " is public or private",
                    Modifier.isPublic(f.getModifiers()) || Modifier.isPrivate(f.getModifiers()));
            if (Modifier.isPublic(f.getModifiers())) {
                CHECKS.holds(f + " is a constant", Modifier.isStatic(f.getModifiers()) && Modifier.isFinal(f.getModifiers()));
                shown.add(f.getType() + " " + f.getName());
            }
        }
        for (Constructor<?> c : NosePost.class.getDeclaredConstructors()) {
            CHECKS.holds(c + " is public", Modifier.isPublic(c.getModifiers()));
            shown.add("NosePost" + types(c.getParameterTypes()));
        }
        CHECKS.holds("the face is " + shown, shown.equals(new TreeSet<>(Set.of(FACE))));
        CHECKS.holds("the class is final", Modifier.isFinal(NosePost.class.getModifiers()));
        CHECKS.holds("the class is public", Modifier.isPublic(NosePost.class.getModifiers()));
        for (Class<?> c : NosePost.class.getDeclaredClasses()) {
            CHECKS.holds(c + " is static, and not public",
                    Modifier.isStatic(c.getModifiers()) && !Modifier.isPublic(c.getModifiers()));
        }
    }

    private static void limits() {
        Class<?>[] inside = NosePost.class.getDeclaredClasses();
        CHECKS.holds("some twelve classes at most", inside.length < 12);
        limitsOf(NosePost.class);
        for (Class<?> c : inside) {
            limitsOf(c);
        }
    }

    private static void limitsOf(Class<?> c) {
        int fields = 0;
        for (Field f : c.getDeclaredFields()) {
            boolean constant = Modifier.isStatic(f.getModifiers());
            CHECKS.holds(f + " is final, as it is static", !constant || Modifier.isFinal(f.getModifiers()));
            fields += constant ? 0 : 1;
        }
        CHECKS.holds(c + " has some twenty fields at most", fields <= 20);
        for (Method m : c.getDeclaredMethods()) {
            CHECKS.holds(m + " takes seven at most", m.getParameterCount() <= 7);
        }
        CHECKS.holds(c + " has no classes inside", c == NosePost.class || c.getDeclaredClasses().length == 0);
    }

    private static String types(Class<?>[] types) {
        StringBuilder names = new StringBuilder("(");
        for (int k = 0; k < types.length; k++) {
            names.append(k == 0 ? "" : ",").append(types[k]);
        }
        return names.append(')').toString();
    }

    private static void source(String text) {
        String code = text.replaceAll("(?s)/\\*.*?\\*/", "").replaceAll("//[^\n]*", "");
        for (String forbidden : FORBIDDEN) {
            Matcher m = Pattern.compile(forbidden).matcher(code);
            CHECKS.holds("the source has no " + forbidden, !m.find());
        }
        // All that is made is made as an object is: no call makes anything.
        Matcher m = Pattern.compile("(?m)^ *(?:private |static )*[\\w\\[\\]]+ \\w+\\([^)]*\\) \\{\n(?s).*?\n(?: {4}| {8})\\}\n").matcher(code);
        int bodies = 0;
        while (m.find()) {
            String body = m.group();
            boolean constructor = body.matches("(?s) *(private |public )?[A-Z]\\w*\\(.*");
            CHECKS.holds("no 'new' in: " + body.strip().lines().findFirst().orElse(""), constructor || !body.contains("new "));
            CHECKS.holds("sixty lines at most: " + body.strip().lines().findFirst().orElse(""), body.lines().count() <= 60);
            bodies++;
        }
        CHECKS.holds("methods were found", bodies > 30);
    }
}
