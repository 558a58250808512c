import java.lang.reflect.Constructor;
import java.lang.reflect.Field;
import java.lang.reflect.Method;
import java.lang.reflect.Modifier;
import java.nio.file.Files;
import java.nio.file.Path;
import java.util.ArrayList;
import java.util.List;
import java.util.TreeSet;

/** The face, and what else of ../shared/LANGUAGE.md the class itself tells; LanguageTest reads its source. */
public final class SourceTest {
    private static final String[] FACE = {"field(int,int)int", "thicket(int)int", "fox(int,int)int", "goose(int,int)int",
        "type(int)int", "clear()int", "read()int", "goes(int)int", "moves(int,int)int", "passes()int", "undo()int",
        "of(int,int)int", "can(int)int", "worth(int)int", "best(int)int", "few()int", "luck(int)int",
        "note(int,int,int,int,int)int", "mark(int,int,int,int,int)int", "forget(int)int", "is()int", "look()int",
        "kinds(int)int", "ask(int)int", "evenings(int,int)int", "part(int)long", "image(int)int", "from(int)int",
        "status(int)int", "count(int)int", "digest()long"};

    private static String told(Method m) {
        StringBuilder b = new StringBuilder(m.getName()).append('(');
        for (int k = 0; k < m.getParameterCount(); k++) b.append(k > 0 ? "," : "").append(m.getParameterTypes()[k]);
        return b.append(')').append(m.getReturnType()).toString();
    }

    private static void face() {
        TreeSet<String> open = new TreeSet<>();
        TreeSet<String> names = new TreeSet<>();
        for (Method m : FoxGeese.class.getDeclaredMethods()) {
            if (Modifier.isPrivate(m.getModifiers())) continue;
            Due.holds(m + " is public", Modifier.isPublic(m.getModifiers()) && !Modifier.isStatic(m.getModifiers()));
            open.add(told(m));
            names.add(m.getName());
        }
        Due.holds("the face is the document's: " + open, open.equals(new TreeSet<>(List.of(FACE))));
        for (Method m : FoxGeese.class.getDeclaredMethods()) {
            if (Modifier.isPrivate(m.getModifiers())) Due.holds(m + " has a name of its own", !names.contains(m.getName()));
        }
        for (Constructor<?> c : FoxGeese.class.getDeclaredConstructors()) {
            Due.holds(c + " is public, without parameters", Modifier.isPublic(c.getModifiers()) && c.getParameterCount() == 0);
        }
        TreeSet<String> constants = new TreeSet<>();
        for (Field f : FoxGeese.class.getDeclaredFields()) {
            if (!Modifier.isPrivate(f.getModifiers())) constants.add(f.getName());
        }
        Due.holds("the constants are the document's: " + constants, constants.equals(new TreeSet<>(List.of("NONE", "BAD", "NO", "FULL"))));
        Due.holds("final", Modifier.isFinal(FoxGeese.class.getModifiers()));
    }

    private static void classesInside() {
        List<Class<?>> all = new ArrayList<>(List.of(FoxGeese.class.getDeclaredClasses()));
        Due.holds("some twelve classes", all.size() <= 11);
        for (Class<?> c : all) {
            Due.holds(c + " is static, not open", Modifier.isStatic(c.getModifiers())
                && !Modifier.isPublic(c.getModifiers()) && !Modifier.isProtected(c.getModifiers()));
        }
        all.add(FoxGeese.class);
        for (Class<?> c : all) {
            int fields = 0;
            for (Field f : c.getDeclaredFields()) {
                if (Modifier.isStatic(f.getModifiers())) Due.holds(f + " is final", Modifier.isFinal(f.getModifiers()));
                else fields++;
            }
            Due.holds(c + " has some twenty fields", fields <= 20);
            for (Method m : c.getDeclaredMethods()) Due.holds(m + " takes seven at most", m.getParameterCount() <= 7);
        }
    }

    private static void plainSigns(String source) {
        for (char c : source.toCharArray()) if (c > 126) Due.holds("a sign above 126", false);
    }

    public static void main(String[] args) throws Exception {
        String source = Files.readString(Path.of(args[0]));
        face();
        classesInside();
        plainSigns(source);
        Due.end();
    }
}
