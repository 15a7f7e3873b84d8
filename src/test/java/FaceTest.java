import java.io.IOException;
import java.lang.reflect.Field;
import java.lang.reflect.Method;
import java.lang.reflect.Modifier;
import java.nio.charset.StandardCharsets;
import java.nio.file.Files;
import java.nio.file.Paths;
import java.util.Arrays;
import java.util.TreeSet;

/** The face is the document's and no more, and the source keeps to what a scan can see of the language rules. */
public final class FaceTest {
    private static final String[] FACE = {"anew()int", "bill(int,int)int", "block(int)int", "closes(int,int)int", "cost()int",
        "count(int)int", "dock(int,int)int", "enters()int", "feed(int,int,int,int,int)int", "good()int", "hold(int,int)int",
        "keep(int,boolean)boolean", "lack(int)int", "load(int,int)int", "log(int,int)int", "proof()long",
        "range(int,boolean)int", "ranked(int)int", "ring(int,int)int", "run(int)int", "sheet(int)int", "spare(int,boolean)int",
        "step()int", "strong()int", "text(int)int", "toll(int,int)int", "total()long", "tried(int,int,int,boolean)int",
        "undo()int", "unit(int,int)int", "way(int,int)int"};
    private static final Check CHECK = new Check();

    public static void main(String[] args) throws IOException {
        members();
        nested();
        source();
        objectsMade();
        CHECK.end("FaceTest");
    }

    private static String shown(Method m) {
        StringBuilder text = new StringBuilder(m.getName()).append('(');
        for (Class<?> type : m.getParameterTypes()) {
            text.append(text.charAt(text.length() - 1) == '(' ? "" : ",").append(type.getName());
        }
        return text.append(')').append(m.getReturnType().getName()).toString();
    }

    private static void members() {
        Class<?> c = PivotDocks.class;
        CHECK.due("public final", Modifier.isPublic(c.getModifiers()) && Modifier.isFinal(c.getModifiers()), true);
        CHECK.due("constructors", c.getDeclaredConstructors().length, 1);
        CHECK.due("a public constructor", c.getConstructors().length, 1);
        TreeSet<String> found = new TreeSet<>();
        TreeSet<String> names = new TreeSet<>();
        for (Method m : c.getDeclaredMethods()) {
            if (Modifier.isPublic(m.getModifiers())) {
                found.add(shown(m));
                names.add(m.getName());
            }
        }
        CHECK.due("the methods of the face: " + found, found.equals(new TreeSet<>(Arrays.asList(FACE))), true);
        for (Method m : c.getDeclaredMethods()) {
            if (!Modifier.isPublic(m.getModifiers())) {
                CHECK.due(m.getName() + " is private", Modifier.isPrivate(m.getModifiers()), true);
                CHECK.due(m.getName() + " bears a name of the face", names.contains(m.getName()), false);
            }
        }
        for (Field f : c.getDeclaredFields()) {
            boolean constant = f.getName().equals("NONE");
            CHECK.due(f.getName() + " is seen as it should be", Modifier.isPublic(f.getModifiers()) == constant
                && Modifier.isPrivate(f.getModifiers()) != constant, true);
            CHECK.due(f.getName() + " static and final", !Modifier.isStatic(f.getModifiers()) || Modifier.isFinal(f.getModifiers()), true);
        }
        for (String name : new String[] {"dock", "way", "log"}) {
            for (Method m : c.getDeclaredMethods()) {
                if (m.getName().equals(name)) {
                    CHECK.due(name + " tells what it throws", Arrays.asList(m.getExceptionTypes())
                        .equals(Arrays.asList(java.util.NoSuchElementException.class)), true);
                }
            }
        }
    }

    private static void nested() {
        Class<?>[] classes = PivotDocks.class.getDeclaredClasses();
        CHECK.due("at most twelve classes", classes.length < 12, true);
        for (Class<?> c : classes) {
            CHECK.due(c.getName() + " static, private", Modifier.isStatic(c.getModifiers()) && Modifier.isPrivate(c.getModifiers()), true);
            int fields = 0;
            for (Field f : c.getDeclaredFields()) {
                fields += Modifier.isStatic(f.getModifiers()) ? 0 : 1;
                CHECK.due(f + " static and final", !Modifier.isStatic(f.getModifiers()) || Modifier.isFinal(f.getModifiers()), true);
            }
            CHECK.due(c.getName() + " has few fields", fields <= 20, true);
            for (Method m : c.getDeclaredMethods()) {
                CHECK.due(m + " takes few", m.getParameterCount() <= 7, true);
                for (String face : FACE) {
                    CHECK.due(m + " bears a name of the face", face.startsWith(m.getName() + "("), false);
                }
            }
        }
    }

    private static String read() throws IOException {
        return new String(Files.readAllBytes(Paths.get("src/main/java/PivotDocks.java")), StandardCharsets.ISO_8859_1);
    }

    /** All rows are made with the object, so that a long run of calls makes nothing but the exceptions it throws. */
    private static void objectsMade() throws IOException {
        String field = " +(private )?(final )?[A-Za-z]+(\\[\\])? \\w+ = new [^;]+;";
        String inConstructor = " +(keeps|plans)\\[k\\] = new Plan\\(\\);";
        String thrown = " +(default: )?throw new NoSuchElementException\\(\"[a-z ]+\"\\);";
        for (String line : read().split("\n")) {
            boolean told = line.matches(" *(//|/\\*\\*).*");
            if (line.contains("new ") && !told) {
                CHECK.due("made: " + line.trim(), line.matches(field) || line.matches(inConstructor) || line.matches(thrown), true);
            }
            CHECK.due("made within a call: " + line.trim(), line.matches(" {12,}.*" + field), false);
        }
    }

    private static void source() throws IOException {
        String text = read();
        String[] never = {"->", "::", "Exact", "catch", "finally", "assert", "synchronized", "System.out", "Random", "nanoTime",
            "currentTimeMillis", "package ", "float", "double", "\t"};
        for (String word : never) {
            CHECK.due("the source holds " + word, text.contains(word), false);
        }
        for (int i = 0; i < text.length(); i++) {
            CHECK.due("sign " + i, text.charAt(i) < 128, true);
        }
        int begun = 0;
        String[] lines = text.split("\n");
        for (int i = 0; i < lines.length; i++) {
            if (lines[i].matches(" {4}(    )?[a-zA-Z].*\\) (throws \\w+ )?\\{")) {
                begun = i;
            }
            if (lines[i].matches(" {4}(    )?\\}")) {
                CHECK.due("the method that ends in line " + (i + 1) + " is short", i - begun <= 60 || lines[i].equals("    }"), true);
            }
        }
    }
}
