import java.io.IOException;
import java.lang.reflect.Constructor;
import java.lang.reflect.Field;
import java.lang.reflect.Method;
import java.lang.reflect.Modifier;
import java.nio.file.Files;
import java.nio.file.Path;
import java.util.Arrays;
import java.util.Set;
import java.util.TreeSet;
import java.util.regex.Pattern;

/** The face is the document's, and the file keeps to what of ../shared/LANGUAGE.md a simple look can tell. */
public final class FaceTest {
    private static final String[] FACE = {
        "int ask()", "int blur(int,int)", "boolean burn(int,int)", "int count(int)", "int day()", "int feed(long,long,long)",
        "int flue(int,int)", "int given(int,int)", "int hope(int,int,int)", "int hour()", "int house(int,int)", "int judged(int)",
        "int lend(int,int,int,int)", "boolean mark(int,boolean)", "boolean read(int,int,int)", "int rests(int,int,int,int,int,int)",
        "int share(int)", "int spell(int,int,int,int)", "int sure(int,int)", "boolean undo()", "int valley()", "int ways(int)",
        "int years(int,int,int)",
    };

    public static void main(String[] args) throws IOException {
        methods();
        fields();
        text();
        Check.end("FaceTest");
    }

    private static void methods() {
        Set<String> due = new TreeSet<>(Arrays.asList(FACE));
        Set<String> names = new TreeSet<>();
        for (String each : FACE) {
            names.add(each.replaceAll(".* |\\(.*", ""));
        }
        int found = 0;
        for (Method m : OneSmoke.class.getDeclaredMethods()) {
            StringBuilder s = new StringBuilder(m.getReturnType().getName()).append(' ').append(m.getName()).append('(');
            for (int i = 0; i < m.getParameterCount(); i++) {
                s.append(i > 0 ? "," : "").append(m.getParameterTypes()[i].getName());
            }
            s.append(')');
            boolean open = Modifier.isPublic(m.getModifiers());
            found += open ? 1 : 0;
            Check.due(s + " is of the face", due.contains(s.toString()), open);
            Check.due(s + " is public or private", open || Modifier.isPrivate(m.getModifiers()), true);
            Check.due(s + " bears no other's name", names.contains(m.getName()), open);
        }
        Check.due("methods", found, FACE.length);
        for (Class<?> inside : OneSmoke.class.getDeclaredClasses()) {
            Check.due(inside + " is private", Modifier.isPrivate(inside.getModifiers()), true);
            Check.due(inside + " is static", Modifier.isStatic(inside.getModifiers()), true);
            for (Method m : inside.getDeclaredMethods()) {
                Check.due(m + " bears no name of the face", names.contains(m.getName()), false);
            }
        }
        Constructor<?>[] made = OneSmoke.class.getDeclaredConstructors();
        Check.due("constructors", made.length, 1);
        Check.due("its parameters", made[0].getParameterCount(), 0);
        Check.due("it is public", Modifier.isPublic(made[0].getModifiers()), true);
        Check.due("the class is final", Modifier.isFinal(OneSmoke.class.getModifiers()), true);
    }

    private static void fields() {
        for (Field f : OneSmoke.class.getDeclaredFields()) {
            boolean none = f.getName().equals("NONE");
            Check.due(f + " is public", Modifier.isPublic(f.getModifiers()), none);
            Check.due(f + " is private", Modifier.isPrivate(f.getModifiers()), !none);
        }
        for (Class<?> inside : OneSmoke.class.getDeclaredClasses()) {
            int own = 0;
            for (Field f : inside.getDeclaredFields()) {
                boolean fixed = Modifier.isStatic(f.getModifiers());
                own += fixed ? 0 : 1;
                Check.due(f + " is final if static", !fixed || Modifier.isFinal(f.getModifiers()), true);
            }
            Check.due(inside + " has not too many fields", own <= 20, true);
        }
        Check.due("classes", OneSmoke.class.getDeclaredClasses().length <= 12, true);
    }

    private static void text() throws IOException {
        String text = Files.readString(Path.of("src/main/java/OneSmoke.java"));
        String[] ruledOut = {"->", "::", "\\bcatch\\b", "\\bfinally\\b", "\\bsynchronized\\b", "\\bassert\\b", "\\bSystem\\.(?!arraycopy)",
            "\\bRandom\\b", "\\bThread\\b", "Exact\\(", "\\bvar\\b", "\\bstatic \\{", "new RuntimeException", "\\bdouble\\b", "\\bfloat\\b",
            "^package", "\\.hashCode", "\\.toString", "\\.ordinal", "Arrays\\.(?!fill|copyOf)", "[^\\x00-\\x7f]"};
        for (String each : ruledOut) {
            Check.due("the file has " + each, Pattern.compile(each, Pattern.MULTILINE).matcher(text).find(), false);
        }
        Check.due("imports", text.split("(?m)^import ").length - 1, 2);
        int from = 0;
        String[] lines = text.split("\n");
        for (int i = 0; i < lines.length; i++) {
            if (lines[i].matches("    (    )?[^ }/@*].*\\) (throws NoSuchElementException )?\\{")) {
                from = i;
            }
            if (lines[i].matches("    (    )?\\}")) {
                Check.due("the method that ends in line " + (i + 1) + " is short", i - from <= 60 || lines[i].equals("    }"), true);
            }
        }
    }
}
