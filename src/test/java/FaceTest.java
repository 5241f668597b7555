import java.lang.reflect.Constructor;
import java.lang.reflect.Field;
import java.lang.reflect.Method;
import java.lang.reflect.Modifier;
import java.nio.file.Files;
import java.nio.file.Path;
import java.util.ArrayList;
import java.util.Collections;
import java.util.HashSet;
import java.util.List;
import java.util.Set;
import java.util.regex.Pattern;

/** The face of the class, and what LANGUAGE.md rules out of its source (as far as words tell). */
public final class FaceTest {
    private static final Due DUE = new Due();
    private static final String[] FACE = {
        "int write(int)", "int wipe()", "int fault()", "int court()", "int person(int,int)",
        "int matter(int,int)", "int says(int,int,int)", "int show(int,int)", "int swear(int,int,int)",
        "int deny(int)", "int drop(int)", "int undo()", "int couples(int,int)", "int cover()",
        "int silence(int)", "int match(boolean)", "int judge(int,int)", "int hear(int,int,int)",
        "int unhear()", "int values(int,int,int)", "int share(int,boolean)", "int rests(int,int,int,int)",
        "int come(int,int,boolean)", "long seed(long)", "int years(int)", "int keep(int)",
        "int again(int)", "int count(int)"};
    private static final String[] RULED_OUT = {
        "throw", "throws", "try", "catch", "finally", "synchronized", "assert", "import", "package",
        "lambda", "->", "::", "System", "Math\\.\\w+Exact", "protected", "interface", "record",
        "hashCode", "equals", "toString", "\\w+\\[\\]\\[\\]", "float", "double", "Object"};

    public static void main(String[] args) throws Exception {
        members();
        constants();
        if (args.length > 0) {
            source(Files.readString(Path.of(args[0])));
        }
        DUE.end();
    }

    private static void members() {
        List<String> got = new ArrayList<>();
        Set<String> names = new HashSet<>();
        for (Method m : HalfTruths.class.getDeclaredMethods()) {
            if (!Modifier.isPrivate(m.getModifiers())) {
                StringBuilder told = new StringBuilder(m.getReturnType() + " " + m.getName() + "(");
                for (Class<?> type : m.getParameterTypes()) {
                    told.append(told.charAt(told.length() - 1) == '(' ? "" : ",").append(type);
                }
                got.add(told + ")");
                names.add(m.getName());
                DUE.is("public " + m, Modifier.isPublic(m.getModifiers()) && !Modifier.isStatic(m.getModifiers()) ? 1 : 0, 1);
            }
        }
        List<String> want = new ArrayList<>(List.of(FACE));
        Collections.sort(got);
        Collections.sort(want);
        DUE.is("face " + got, got.equals(want) ? 1 : 0, 1);
        for (Method m : HalfTruths.class.getDeclaredMethods()) {
            DUE.is("private name " + m, Modifier.isPrivate(m.getModifiers()) && names.contains(m.getName()) ? 1 : 0, 0);
        }
        Constructor<?>[] made = HalfTruths.class.getDeclaredConstructors();
        DUE.is("one constructor", made.length, 1);
        DUE.is("it takes nothing", made[0].getParameterCount(), 0);
        DUE.is("it is public", Modifier.isPublic(made[0].getModifiers()) ? 1 : 0, 1);
        DUE.is("public final class", HalfTruths.class.getModifiers() & (Modifier.PUBLIC | Modifier.FINAL),
                Modifier.PUBLIC | Modifier.FINAL);
        for (Class<?> inside : HalfTruths.class.getDeclaredClasses()) {
            DUE.is("static inside " + inside, Modifier.isStatic(inside.getModifiers()) ? 1 : 0, 1);
            DUE.is("not public inside " + inside, Modifier.isPublic(inside.getModifiers()) ? 1 : 0, 0);
            DUE.is("fields of " + inside, inside.getDeclaredFields().length <= 20 ? 1 : 0, 1);
            for (Method m : inside.getDeclaredMethods()) {
                DUE.is("name inside " + m, names.contains(m.getName()) ? 1 : 0, 0);
            }
        }
    }

    private static void constants() throws Exception {
        String[] names = {"UNKNOWN", "OUTSIDE", "STATE", "FULL", "NONE"};
        int[] values = {-1, -2, -3, -4, -9};
        int found = 0;
        for (Field f : HalfTruths.class.getDeclaredFields()) {
            if (!Modifier.isPrivate(f.getModifiers())) {
                found++;
                DUE.is("constant " + f, f.getModifiers(), Modifier.PUBLIC | Modifier.STATIC | Modifier.FINAL);
            } else if (Modifier.isStatic(f.getModifiers())) {
                DUE.is("final " + f, Modifier.isFinal(f.getModifiers()) ? 1 : 0, 1);
            }
        }
        DUE.is("constants", found, names.length);
        for (int k = 0; k < names.length; k++) {
            DUE.is(names[k], HalfTruths.class.getField(names[k]).getInt(null), values[k]);
        }
    }

    private static void source(String source) {
        String code = source.replaceAll("(?s)/\\*.*?\\*/", " ").replaceAll("//[^\n]*", " ");
        for (String word : RULED_OUT) {
            boolean letters = Character.isLetter(word.charAt(0));
            Pattern pattern = Pattern.compile(letters ? "\\b" + word + "\\b" : word);
            DUE.is("ruled out: " + word, pattern.matcher(code).find() ? 1 : 0, 0);
        }
        int longest = 0;
        int lines = 0;
        for (String line : source.split("\n")) {
            lines = line.matches("    (    )?(public |private |static |boolean |int |long |void |Court )+.*\\) \\{") ? 0 : lines + 1;
            longest = line.equals("    }") || line.equals("        }") ? Math.max(longest, lines) : longest;
        }
        DUE.is("longest method " + longest, longest <= 60 ? 1 : 0, 1);
    }
}
