import java.lang.reflect.Constructor;
import java.lang.reflect.Field;
import java.lang.reflect.Method;
import java.lang.reflect.Modifier;
import java.nio.file.Files;
import java.nio.file.Path;
import java.util.ArrayList;
import java.util.Arrays;
import java.util.List;
import java.util.TreeSet;
import java.util.regex.Matcher;
import java.util.regex.Pattern;

/** What of LANGUAGE.md and of the document's face can be seen from the source and the compiled class. */
public final class RulesTest {
    private static int wrong;

    private static final String FACE = "int house(int,int);int of(int,int);int owner(int);int music(int);"
        + "int asks(int,int,int,int);int terms(int,int);int feed(int,int,int,int,int);int end(int);int row();int creaks();"
        + "int law();int orders();int fault();int stopped();int force(int);int note(int,int);int give(int,int);"
        + "int shift(int);int pass();int undo();int drill();int least(int);int who(int,int);int ways(int);"
        + "int might(int,int);int cover(int);int run(int,int);int best(int);int motif(int);int forget();int find(int);"
        + "int owes(int,int);int settled();long few(int,int);int compare(int);int evenings(int,int);int drawn(int,int);"
        + "int image(int);int back(int);int count(int);int status()";

    public static void main(String[] args) throws Exception {
        face();
        source(Files.readString(Path.of("src/main/java/KeyHouses.java")));
        System.out.println("RulesTest: " + wrong + " breaches");
        System.exit(wrong == 0 ? 0 : 1);
    }

    private static void expect(boolean so, String what) {
        if (!so) {
            wrong++;
            System.out.println(what);
        }
    }

    private static void face() {
        Class<?> face = KeyHouses.class;
        expect(Modifier.isPublic(face.getModifiers()) && Modifier.isFinal(face.getModifiers()), "public and final");
        TreeSet<String> names = new TreeSet<>();
        TreeSet<String> methods = new TreeSet<>();
        for (Method method : face.getDeclaredMethods()) {
            if (Modifier.isPublic(method.getModifiers())) {
                List<String> types = new ArrayList<>();
                Arrays.stream(method.getParameterTypes()).forEach(type -> types.add(type.getName()));
                methods.add(method.getReturnType() + " " + method.getName() + "(" + String.join(",", types) + ")");
                names.add(method.getName());
            } else {
                expect(Modifier.isPrivate(method.getModifiers()), method + " is not private");
            }
        }
        expect(methods.equals(new TreeSet<>(Arrays.asList(FACE.split(";")))), "the face has " + methods);
        TreeSet<String> fields = new TreeSet<>();
        for (Field field : face.getDeclaredFields()) {
            if (!Modifier.isPrivate(field.getModifiers())) {
                fields.add(field.getName());
            }
        }
        expect(fields.toString().equals("[NONE, NOTHING]"), "the face has " + fields);
        expect(KeyHouses.NONE == -1 && KeyHouses.NOTHING == -100, "the constants");
        Constructor<?>[] constructors = face.getDeclaredConstructors();
        expect(constructors.length == 1 && Modifier.isPublic(constructors[0].getModifiers()), "the constructor");
        classes(face, names);
    }

    private static void classes(Class<?> face, TreeSet<String> names) {
        Class<?>[] inside = face.getDeclaredClasses();
        expect(inside.length <= 11, "more than twelve classes");
        for (Class<?> one : inside) {
            expect(Modifier.isStatic(one.getModifiers()), one + " is not static");
            expect(one.getDeclaredClasses().length == 0, one + " has classes inside");
            long fields = Arrays.stream(one.getDeclaredFields()).filter(f -> !Modifier.isStatic(f.getModifiers())).count();
            expect(fields <= 20, one + " has too many fields");
            for (Method method : one.getDeclaredMethods()) {
                expect(!names.contains(method.getName()), method + " bears the name of a public one");
                expect(method.getParameterCount() <= 7, method + " takes too much");
            }
        }
        long fields = Arrays.stream(face.getDeclaredFields()).filter(f -> !Modifier.isStatic(f.getModifiers())).count();
        expect(fields <= 20, "too many fields");
        for (Field field : face.getDeclaredFields()) {
            if (Modifier.isStatic(field.getModifiers())) {
                expect(Modifier.isFinal(field.getModifiers()), field + " is not final");
                expect(field.getType().isPrimitive() || field.getType() == String.class, field + " is no constant");
            }
        }
    }

    private static void source(String text) {
        String bare = text.replaceAll("(?s)/\\*.*?\\*/", "").replaceAll("//[^\n]*", "").replaceAll("\"[^\"\n]*\"", "\"\"")
            .replaceAll("'(\\\\.|[^'\\\\])'", "'s'");
        for (String word : new String[] {"throw", "throws", "try", "catch", "synchronized", "assert", "double", "float",
            "package", "volatile", "transient", "native", "var", "yield", "goto", "protected", "hashCode", "toString",
            "static \\{", "->", "::", "Exact", "Random", "System\\.(?!arraycopy)", "Thread", "instanceof"}) {
            String pattern = Character.isLetter(word.charAt(0)) ? "\\b" + word + (word.endsWith("{") || word.endsWith(")") ? "" : "\\b") : word;
            Matcher found = Pattern.compile(pattern).matcher(bare);
            expect(!found.find(), "the source has " + word);
        }
        Matcher imports = Pattern.compile("import ([^;]*);").matcher(bare);
        while (imports.find()) {
            expect(imports.group(1).equals("java.util.Arrays"), "it imports " + imports.group(1));
        }
        Matcher calls = Pattern.compile("\\b(Arrays|Math|Integer|Long|System|String)\\.(\\w+)").matcher(bare);
        while (calls.find()) {
            expect(("Arrays.fill System.arraycopy Math.min Math.max Integer.bitCount ").contains(calls.group() + " "),
                "it uses " + calls.group());
        }
        for (char sign : text.toCharArray()) {
            expect(sign < 128, "a sign beyond 127");
        }
        lengths(text);
    }

    /** Methods of at most sixty lines, told by their braces' indents. */
    private static void lengths(String text) {
        String[] lines = text.split("\n");
        int start = -1;
        String indent = "";
        for (int i = 0; i < lines.length; i++) {
            if (lines[i].matches("( {4}| {8})\\S.*\\) \\{") && !lines[i].matches(" *(if|for|while|switch|else).*")) {
                start = i;
                indent = lines[i].substring(0, lines[i].indexOf(lines[i].trim()));
            }
            if (start >= 0 && lines[i].equals(indent + "}")) {
                expect(i - start < 60, "line " + (start + 1) + " begins a method of " + (i - start + 1) + " lines");
                start = -1;
            }
        }
    }
}
