import java.lang.reflect.Constructor;
import java.lang.reflect.Field;
import java.lang.reflect.Method;
import java.lang.reflect.Modifier;
import java.nio.file.Files;
import java.nio.file.Path;
import java.util.ArrayList;
import java.util.HashSet;
import java.util.List;
import java.util.Set;
import java.util.TreeSet;
import java.util.regex.Matcher;
import java.util.regex.Pattern;

/** The public face is the document's and no more, and the source keeps to the language's rules. */
public final class FaceTest {
    private static final String FACE =
        "int patch(int,int);int colours(int);int dye(int,int);int dyes(int,int,int);int at(int);int moves();"
        + "int lead(int,int);int behind(int,int);int back(int);int order(int);int keeps(int);int kept(int);"
        + "int keeper(int);int go(int);int least();int mirrored(int);int mirror(int);int kind();int paints();"
        + "int paint(int,int);int keepsBy(int,int);int by(int);int swaps();int tell(int);int untell();"
        + "int together();int rings();int ring(int);int mend(boolean);int sure(int);int torn();long papers();"
        + "long upTo();int like();int first(int);int toFirst();int pieces(boolean);int piece(int);int count(int)";
    private static final String[] FORBIDDEN = {
        "\\bthrow\\b", "\\bthrows\\b", "\\btry\\b", "\\bcatch\\b", "\\bsynchronized\\b", "\\bassert\\b", "->", "::",
        "\\bimport\\b", "\\bpackage\\b", "\\bprotected\\b", "\\bSystem\\b", "\\bstatic \\{", "\\bThread\\b",
        "\\bvolatile\\b", "\\btransient\\b", "\\bnative\\b", "\\bequals\\b", "\\bhashCode\\b", "\\btoString\\b",
        "Exact\\b", "@", "\\bdouble\\b", "\\bfloat\\b",
    };

    private static int wrong = 0;

    public static void main(String[] args) throws Exception {
        checkMembers();
        checkClassesInside();
        checkSource(Files.readString(Path.of("src/main/java/PaperRepeats.java")));
        System.out.println(wrong == 0 ? "the face is as due" : wrong + " faults of the face");
        if (wrong != 0) {
            System.exit(1);
        }
    }

    private static void demand(boolean holds, String what) {
        if (!holds) {
            wrong++;
            System.out.println(what);
        }
    }

    private static void checkMembers() {
        Class<?> face = PaperRepeats.class;
        demand(Modifier.isPublic(face.getModifiers()) && Modifier.isFinal(face.getModifiers()), "public and final");
        Set<String> found = new TreeSet<>();
        for (Method method : face.getDeclaredMethods()) {
            if (Modifier.isPrivate(method.getModifiers())) {
                continue;
            }
            List<String> types = new ArrayList<>();
            for (Class<?> type : method.getParameterTypes()) {
                types.add(type.getName());
            }
            found.add(method.getReturnType().getName() + " " + method.getName() + "(" + String.join(",", types) + ")");
        }
        demand(found.equals(new TreeSet<>(List.of(FACE.split(";")))), "the methods are " + found);
        Set<String> fields = new TreeSet<>();
        for (Field field : face.getDeclaredFields()) {
            if (!Modifier.isPrivate(field.getModifiers())) {
                fields.add(field.getName());
            }
            demand(!Modifier.isStatic(field.getModifiers()) || Modifier.isFinal(field.getModifiers()), field.getName());
        }
        demand(fields.equals(Set.of("UNKNOWN", "BAD", "LATE", "FULL", "NONE")), "the constants are " + fields);
        Constructor<?>[] constructors = face.getDeclaredConstructors();
        demand(constructors.length == 1 && constructors[0].getParameterCount() == 0
            && Modifier.isPublic(constructors[0].getModifiers()), "one public constructor without parameters");
    }

    private static void checkClassesInside() {
        Set<String> names = new HashSet<>();
        for (Method method : PaperRepeats.class.getMethods()) {
            names.add(method.getName());
        }
        Class<?>[] inside = PaperRepeats.class.getDeclaredClasses();
        demand(inside.length <= 11, "at most some twelve classes");
        for (Class<?> one : inside) {
            demand(Modifier.isStatic(one.getModifiers()), one.getName() + " is static");
            demand(one.getDeclaredFields().length <= 20, one.getName() + " has at most twenty fields");
            for (Method method : one.getDeclaredMethods()) {
                demand(method.getParameterCount() <= 7, one.getName() + " has long calls: " + method);
                demand(!names.contains(method.getName()), one.getName() + " has a name of the face: " + method);
            }
        }
    }

    /** The blocks of the classes' methods end at the first line that closes at their own depth. */
    private static void checkLengths(String source) {
        Matcher method = Pattern.compile("(?ms)^( +)[\\w ]+\\([\\w, ]*\\) \\{\n.*?^\\1\\}\n").matcher(source);
        int methods = 0;
        while (method.find()) {
            methods++;
            String text = method.group();
            demand(text.lines().count() <= 60, "a long method: " + text.lines().findFirst().orElse(""));
        }
        demand(methods > 100, "only " + methods + " methods were looked at");
    }

    private static void checkSource(String source) {
        checkLengths(source);
        String code = source.replaceAll("(?s)/\\*.*?\\*/", "").replaceAll("//[^\n]*", "");
        for (String word : FORBIDDEN) {
            Matcher matcher = Pattern.compile(word).matcher(code);
            demand(!matcher.find(), "the source has what the rules leave out: " + word);
        }
        int rows = 0;
        Matcher made = Pattern.compile("\\bnew \\w+\\[").matcher(code);
        while (made.find()) {
            rows++;
        }
        Matcher fields = Pattern.compile("private final \\w+\\[\\] \\w+ = new ").matcher(code);
        int inFields = 0;
        while (fields.find()) {
            inFields++;
        }
        demand(rows == inFields, "all rows are made with the object");
        demand(!Pattern.compile("[^\\x00-\\x7f]").matcher(source).find(), "signs 1 to 127 alone");
    }
}
