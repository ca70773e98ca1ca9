import java.lang.reflect.Constructor;
import java.lang.reflect.Field;
import java.lang.reflect.Method;
import java.lang.reflect.Modifier;
import java.nio.file.Files;
import java.nio.file.Path;
import java.util.ArrayList;
import java.util.List;
import java.util.Set;
import java.util.TreeSet;
import java.util.regex.Matcher;
import java.util.regex.Pattern;

/** The face of promises 1 to 25, and those rules of LANGUAGE.md that can be told from the source's signs. */
public final class LanguageTest {
    private static final String[] FACE = {"int write(int)", "int wipe()", "int fault()", "int link()", "int ask(int)",
        "int end(int,int)", "int held(int,int)", "int come(int)", "int pass(int)", "int tell(int,int,int)", "int undo()",
        "int ahead(int,int)", "int play(int)", "int judge(int,long)", "int see(int,int)", "int unsee()", "int which()",
        "int share(int,boolean)", "int luck(int,int,int,boolean)", "long seed(long)", "int drawn(int)", "int keep(int)",
        "int again(int)", "int count(int)"};
    private static final String[] CONSTANTS = {"UNKNOWN", "OUTSIDE", "STATE", "FULL", "NONE"};
    private static final String HEAD_OF_METHOD =
            "^( {4}| {8})((?:public |private |static |final )*)([A-Za-z\\[\\]]+ )?([A-Za-z]+)\\(([^()]*)\\) \\{$";

    public static void main(String[] args) throws Exception {
        face();
        classesInside();
        String source = Files.readString(Path.of(args[0]));
        words(source);
        methods(source);
        Due.finish("LanguageTest");
    }

    private static void face() throws Exception {
        int modifiers = DozeLink.class.getModifiers();
        Due.holds("the class is public and final", Modifier.isPublic(modifiers) && Modifier.isFinal(modifiers));
        Due.holds("no package", DozeLink.class.getPackageName().isEmpty());
        Set<String> open = new TreeSet<>();
        for (Method method : DozeLink.class.getDeclaredMethods()) {
            if (!Modifier.isPrivate(method.getModifiers())) {
                Due.holds(method + " is public", Modifier.isPublic(method.getModifiers()));
                Due.holds(method + " is not static", !Modifier.isStatic(method.getModifiers()));
                open.add(told(method));
            }
        }
        Due.holds("the methods of the face and no others: " + open, open.equals(new TreeSet<>(List.of(FACE))));
        Constructor<?>[] made = DozeLink.class.getDeclaredConstructors();
        Due.holds("one public constructor", made.length == 1 && Modifier.isPublic(made[0].getModifiers())
                && made[0].getParameterCount() == 0);
        Set<String> fields = new TreeSet<>();
        for (Field field : DozeLink.class.getDeclaredFields()) {
            if (!Modifier.isPrivate(field.getModifiers())) {
                fields.add(field.getName());
                Due.holds(field + " is a constant of int", field.toString().startsWith("public static final int "));
            }
        }
        Due.holds("the constants of the face and no others", fields.equals(new TreeSet<>(List.of(CONSTANTS))));
        int[] values = {-1, -2, -3, -4, -9};
        for (int i = 0; i < values.length; i++) {
            Due.is(CONSTANTS[i], DozeLink.class.getField(CONSTANTS[i]).getInt(null), values[i]);
        }
    }

    private static String told(Method method) {
        List<String> types = new ArrayList<>();
        for (Class<?> type : method.getParameterTypes()) {
            types.add(type.getName());
        }
        return method.getReturnType().getName() + " " + method.getName() + "(" + String.join(",", types) + ")";
    }

    private static void classesInside() {
        Class<?>[] inside = DozeLink.class.getDeclaredClasses();
        Due.holds("at most twelve classes", inside.length + 1 <= 12);
        List<Class<?>> all = new ArrayList<>(List.of(inside));
        for (Class<?> each : all) {
            Due.holds(each + " is static", Modifier.isStatic(each.getModifiers()));
            Due.holds(each + " is final", Modifier.isFinal(each.getModifiers()));
            Due.holds(each + " is not public", !Modifier.isPublic(each.getModifiers()));
        }
        all.add(DozeLink.class);
        for (Class<?> each : all) {
            int fields = 0;
            for (Field field : each.getDeclaredFields()) {
                boolean isStatic = Modifier.isStatic(field.getModifiers());
                Due.holds(field + " if static is final", !isStatic || Modifier.isFinal(field.getModifiers()));
                fields += isStatic ? 0 : 1;
            }
            Due.holds(each + " has at most twenty fields", fields <= 20);
        }
    }

    private static void words(String source) {
        String bare = source.replaceAll("(?s)/\\*.*?\\*/", "").replaceAll("//.*", "");
        String[] banned = {"\\bimport\\b", "\\bpackage\\b", "\\bthrow\\b", "\\bthrows\\b", "\\btry\\b", "\\bcatch\\b",
            "\\bsynchronized\\b", "\\bassert\\b", "\\bwhile\\b", "\\bSystem\\b", "\\bThread\\b", "\\bdouble\\b", "\\bfloat\\b",
            "->", "::", "Exact\\b", "\\bequals\\b", "\\bhashCode\\b", "\\btoString\\b", "\"", "\\bprotected\\b", "@"};
        for (String word : banned) {
            Due.holds("no " + word, !Pattern.compile(word).matcher(bare).find());
        }
        Due.holds("signs 1 to 127 alone", source.chars().allMatch(c -> c == '\n' || c >= ' ' && c < 127));
        Matcher library = Pattern.compile("\\b(Math|Integer|Long|Arrays|List|ArrayList|String|StringBuilder)\\b(\\.\\w+)?").matcher(bare);
        while (library.find()) {
            String use = library.group();
            Due.holds("the library's " + use, Set.of("Math.max", "Math.min", "Math.abs", "Integer.bitCount").contains(use));
        }
    }

    /** Length, parameters, names; and that rows and objects are made by constructors alone, which keeps the room small. */
    private static void methods(String source) {
        String[] lines = source.split("\n");
        Pattern head = Pattern.compile(HEAD_OF_METHOD);
        Set<String> faceNames = new TreeSet<>();
        for (String line : FACE) {
            faceNames.add(line.replaceAll("^\\w+ (\\w+)\\(.*$", "$1"));
        }
        int methods = 0;
        int made = 0;
        for (int i = 0; i < lines.length; i++) {
            Matcher m = head.matcher(lines[i]);
            if (!m.matches()) {
                continue;
            }
            methods++;
            int last = i;
            while (!lines[last].equals(m.group(1) + "}")) {
                last++;
            }
            Due.holds(lines[i] + " has at most sixty lines", last - i + 1 <= 60);
            Due.holds(lines[i] + " has at most seven parameters", m.group(5).split(",").length <= 7);
            if (!m.group(2).contains("public")) {
                Due.holds(lines[i] + " bears no name of the face", !faceNames.contains(m.group(4)));
            }
            boolean constructor = m.group(3) == null;
            for (int j = i; j <= last; j++) {
                boolean makes = lines[j].contains("new ");
                made += makes ? 1 : 0;
                Due.holds("made by a constructor: " + lines[j], !makes || constructor);
            }
        }
        Due.holds("all methods are found", methods >= FACE.length + 1);
        Due.is("all that is made is found", made, source.lines().filter(line -> line.contains("= new ")).count());
    }
}
