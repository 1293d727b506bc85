import java.lang.reflect.Constructor;
import java.lang.reflect.Field;
import java.lang.reflect.Method;
import java.lang.reflect.Modifier;
import java.nio.file.Files;
import java.nio.file.Path;
import java.util.ArrayList;
import java.util.Arrays;
import java.util.HashSet;
import java.util.List;
import java.util.Set;
import java.util.regex.Matcher;
import java.util.regex.Pattern;

/** The face of the document, and of ../shared/LANGUAGE.md what can be seen in the classes and the source. */
public final class LanguageTest {
    private static final String SOURCE = "src/main/java/ThumbReader.java";
    private static final String DOCUMENT = "../shared/DOC.md";

    private static final String FACE = """
        row(int,int)int lay(int,int,int)int at(int,int)int tear(int)int copy(int,int,int,int,int)int mean(int)int
        text(int,int)int put(int,int,int)int fault(int)int office(int)int head(int,int)int thumb(int,int)int
        post(int,int)int mark(int,int)int error(int,int)int pad(int,int)int grow(int)int cut(int,int)int undo(int)int
        keep(int)int on(int)int reads(int,int,int)int fits(int,int,int)int whose(int,int)int who(int,int)int
        odds(int,int,int)int look(int)int alike(int,int)int suits(int,int,int)int luck(int,int,int)int
        pads(int,int,int,int)int all(int,int)int finds(int,int,int)int posts(int,int)int plan(int,int)int plans(int)int
        safest(int)int gain(int,int)int learn(int,int)int tells(int)int lots(int,int,int)int asked()int upper()long
        lower()long count(int)int finding()int findings(int)int digest()long""";

    private static final String[] FORBIDDEN = {
        "throw", "throws", "try", "catch", "finally", "synchronized", "assert", "import", "package", "native",
        "volatile", "transient", "Thread", "System\\.(?!arraycopy\\b)\\w+", "->", "::", "@\\w+", "Exact\\b",
        "Object", "hashCode", "toString", "getClass", "null"};

    private static int wrong = 0;

    public static void main(String[] args) throws Exception {
        document(Files.readString(Path.of(DOCUMENT)));
        face();
        nested();
        String code = bare(Files.readString(Path.of(SOURCE)));
        words(code);
        methods(code);
        System.out.println(wrong == 0 ? "the language is kept to" : wrong + " faults");
        if (wrong != 0) {
            System.exit(1);
        }
    }

    private static void due(String what, boolean good) {
        if (!good) {
            wrong++;
            System.out.println(what);
        }
    }

    /** "The public face" as it stands there: its methods are those of FACE, its constants have these values. */
    private static void document(String page) throws ReflectiveOperationException {
        int start = page.indexOf("public final class ThumbReader {");
        String told = page.substring(start, page.indexOf("```", start));
        Set<String> methods = new HashSet<>();
        Matcher method = Pattern.compile("public (\\w+) (\\w+)\\((.*?)\\);").matcher(told);
        while (method.find()) {
            String types = method.group(3).replaceAll(" \\w+(, |$)", "$1").replace(", ", ",");
            methods.add(method.group(2) + "(" + types + ")" + method.group(1));
        }
        due("the document's face is " + methods, methods.equals(new HashSet<>(Arrays.asList(FACE.split("\\s+")))));
        int constants = 0;
        Matcher constant = Pattern.compile("([A-Z]+) = (-\\d+)[,;]").matcher(told);
        while (constant.find()) {
            constants++;
            int value = ThumbReader.class.getField(constant.group(1)).getInt(null);
            due(constant.group(), value == Integer.parseInt(constant.group(2)));
        }
        due("six constants are told", constants == 6);
    }

    private static void face() {
        Class<?> face = ThumbReader.class;
        due("public and final", Modifier.isPublic(face.getModifiers()) && Modifier.isFinal(face.getModifiers()));
        Set<String> want = new HashSet<>(Arrays.asList(FACE.split("\\s+")));
        due("48 methods are told", want.size() == 48);
        Set<String> got = new HashSet<>();
        for (Method method : face.getDeclaredMethods()) {
            if (Modifier.isPublic(method.getModifiers())) {
                StringBuilder signs = new StringBuilder(method.getName()).append('(');
                for (Class<?> type : method.getParameterTypes()) {
                    signs.append(signs.charAt(signs.length() - 1) == '(' ? "" : ",").append(type.getName());
                }
                got.add(signs.append(')').append(method.getReturnType().getName()).toString());
                due(method + " is of an object", !Modifier.isStatic(method.getModifiers()));
            } else {
                due(method + " is private", Modifier.isPrivate(method.getModifiers()));
            }
        }
        due("public methods " + got, got.equals(want));
        Set<String> constants = new HashSet<>(List.of("BAD", "FULL", "FINDING", "STATE", "SPENT", "NONE"));
        for (Field field : face.getDeclaredFields()) {
            boolean isPublic = Modifier.isPublic(field.getModifiers());
            due(field + " is private or a constant", isPublic ? constants.remove(field.getName())
                : Modifier.isPrivate(field.getModifiers()));
        }
        due("constants are missing: " + constants, constants.isEmpty());
        Constructor<?>[] constructors = face.getDeclaredConstructors();
        due("one constructor", constructors.length == 1 && Modifier.isPublic(constructors[0].getModifiers())
            && constructors[0].getParameterCount() == 0);
    }

    private static void nested() {
        Set<String> names = new HashSet<>();
        for (String call : FACE.split("\\s+")) {
            names.add(call.substring(0, call.indexOf('(')));
        }
        List<Class<?>> all = new ArrayList<>(List.of(ThumbReader.class.getDeclaredClasses()));
        due("twelve classes at most", all.size() < 12);
        all.add(ThumbReader.class);
        for (Class<?> one : all) {
            due(one + " is static", one == ThumbReader.class || Modifier.isStatic(one.getModifiers()));
            int fields = 0;
            for (Field field : one.getDeclaredFields()) {
                boolean isStatic = Modifier.isStatic(field.getModifiers());
                fields += isStatic ? 0 : 1;
                due(field + " is final", !isStatic || Modifier.isFinal(field.getModifiers()));
            }
            due(one + " has twenty fields at most", fields <= 20);
            for (Method method : one.getDeclaredMethods()) {
                due(method + " takes seven at most", method.getParameterCount() <= 7);
                boolean shares = names.contains(method.getName());
                due(method + " bears a name of the face", !shares || Modifier.isPublic(method.getModifiers()));
            }
        }
    }

    /** Without comments; blanks stand for them, so that lines stay. */
    private static String bare(String source) {
        Matcher comment = Pattern.compile("/\\*.*?\\*/|//[^\\n]*", Pattern.DOTALL).matcher(source);
        return comment.replaceAll(found -> found.group().replaceAll("[^\\n]", " "));
    }

    private static void words(String code) {
        for (String word : FORBIDDEN) {
            String pattern = Character.isLetter(word.charAt(0)) ? "\\b" + word + "\\b" : word;
            Matcher found = Pattern.compile(pattern).matcher(code);
            due("the source has " + word, !found.find());
        }
        due("signs 1 to 127", code.chars().allMatch(sign -> sign > 0 && sign < 128));
    }

    private static void methods(String code) {
        String[] lines = code.split("\n");
        int start = -1;
        String end = "";
        for (int i = 0; i < lines.length; i++) {
            Matcher open = Pattern.compile("^( {4}| {8})[a-zA-Z].*\\) \\{$").matcher(lines[i]);
            if (start < 0 && open.matches()) {
                start = i;
                end = open.group(1) + "}";
            } else if (start >= 0 && lines[i].equals(end)) {
                due("sixty lines at most: " + lines[start].trim(), i - start + 1 <= 60);
                start = -1;
            }
        }
        due("each method has an end", start < 0);
    }
}
