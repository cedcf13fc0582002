import java.io.IOException;
import java.lang.reflect.Constructor;
import java.lang.reflect.Field;
import java.lang.reflect.Method;
import java.lang.reflect.Modifier;
import java.nio.file.Files;
import java.nio.file.Path;
import java.util.Arrays;
import java.util.Set;
import java.util.TreeSet;
import java.util.regex.Pattern;

/** The public face is the document's, and the file has none of the words that LANGUAGE.md rules out. */
public final class FaceTest {
    private static final String[] FACE = {
        "person(boolean,int)", "introduce(int,int,int)", "feud(int,int,boolean)", "knows(int,int)",
        "feed(long)", "end(int)", "customs()", "fault()", "custom(int)",
        "ask(int,int,int)", "why(int,int,int)", "refuse(int,int,int)", "part(int,int,int)", "swap(int,int,int)",
        "card(int,int)", "ill(int)", "well(int)", "could(int)", "fill(int)", "about(int,int)",
        "sheet(int,int,int)", "lay(int,int,int)", "scan(int,int,int,int)",
        "wish(int,int,int)", "fewest()", "laid(int,int)", "sets(int)", "set(int,int)", "count(int)"};
    private static final String[] FORBIDDEN = {"throw", "try", "catch", "finally", "synchronized", "assert", "->", "::",
        "Random", "System.nanoTime", "System.currentTimeMillis", "package", "protected", "Exact"};

    private static void dueTrue(String what, boolean holds) {
        Due.due(what, holds ? 1 : 0, 1);
    }

    private static String signature(Method m) {
        StringBuilder text = new StringBuilder(m.getName()).append('(');
        for (Class<?> type : m.getParameterTypes()) text.append(text.charAt(text.length() - 1) == '(' ? "" : ",").append(type);
        return text.append(')').toString();
    }

    private static void checkMethods() {
        Set<String> open = new TreeSet<>();
        Set<String> openNames = new TreeSet<>();
        for (Method m : DanceCards.class.getDeclaredMethods()) {
            if (Modifier.isPrivate(m.getModifiers())) continue;
            open.add(signature(m));
            openNames.add(m.getName());
            dueTrue(m + " is public, of an object, and answers an int",
                    Modifier.isPublic(m.getModifiers()) && !Modifier.isStatic(m.getModifiers()) && m.getReturnType() == int.class);
        }
        dueTrue("the methods are those of the document: " + open, open.equals(new TreeSet<>(Arrays.asList(FACE))));
        for (Class<?> c : withNested()) {
            for (Method m : c.getDeclaredMethods()) {
                dueTrue(m + " bears no public one's name",
                        !Modifier.isPrivate(m.getModifiers()) || !openNames.contains(m.getName()));
            }
        }
    }

    private static Class<?>[] withNested() {
        Class<?>[] nested = DanceCards.class.getDeclaredClasses();
        Class<?>[] all = Arrays.copyOf(nested, nested.length + 1);
        all[nested.length] = DanceCards.class;
        return all;
    }

    private static void checkFields() {
        Set<String> open = new TreeSet<>();
        for (Field f : DanceCards.class.getDeclaredFields()) {
            if (Modifier.isPrivate(f.getModifiers())) continue;
            open.add(f.getName());
            dueTrue(f + " is a public constant", f.getModifiers() == (Modifier.PUBLIC | Modifier.STATIC | Modifier.FINAL));
        }
        dueTrue("the constants are those of the document", open.equals(Set.of("BAD", "STATE", "FULL", "NONE")));
        for (Class<?> c : withNested()) {
            for (Field f : c.getDeclaredFields()) {
                dueTrue(f + " is final, if static", !Modifier.isStatic(f.getModifiers()) || Modifier.isFinal(f.getModifiers()));
            }
        }
        Due.due("BAD", DanceCards.BAD, -1);
        Due.due("STATE", DanceCards.STATE, -2);
        Due.due("FULL", DanceCards.FULL, -3);
        Due.due("NONE", DanceCards.NONE, -4);
    }

    private static void checkClasses() {
        Constructor<?>[] made = DanceCards.class.getDeclaredConstructors();
        dueTrue("one public constructor without parameters",
                made.length == 1 && made[0].getParameterCount() == 0 && Modifier.isPublic(made[0].getModifiers()));
        dueTrue("public and final", DanceCards.class.getModifiers() == (Modifier.PUBLIC | Modifier.FINAL));
        for (Class<?> c : DanceCards.class.getDeclaredClasses()) {
            dueTrue(c + " is static and not public",
                    Modifier.isStatic(c.getModifiers()) && !Modifier.isPublic(c.getModifiers()));
        }
    }

    private static void checkWords() throws IOException {
        String source = Files.readString(Path.of("src/main/java/DanceCards.java"));
        String code = source.replaceAll("(?s)/\\*.*?\\*/", "").replaceAll("//[^\n]*", "");
        for (String word : FORBIDDEN) {
            String edge = Character.isLetter(word.charAt(0)) ? "\\b" : "";
            dueTrue("no '" + word + "'", !Pattern.compile(edge + Pattern.quote(word) + edge).matcher(code).find());
        }
    }

    public static void main(String[] args) throws IOException {
        checkMethods();
        checkFields();
        checkClasses();
        checkWords();
        Due.finish();
    }
}
