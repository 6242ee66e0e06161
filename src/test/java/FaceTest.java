import java.io.IOException;
import java.lang.reflect.Constructor;
import java.lang.reflect.Field;
import java.lang.reflect.Method;
import java.lang.reflect.Modifier;
import java.nio.charset.StandardCharsets;
import java.nio.file.Files;
import java.nio.file.Path;
import java.util.List;
import java.util.Set;
import java.util.TreeSet;
import java.util.regex.Matcher;
import java.util.regex.Pattern;

/** The public face of the document, and those rules of LANGUAGE.md that can be looked up in the source. */
public final class FaceTest {
    private static final Due due = new Due();
    private static final String[] METHODS = {"int back()", "int buy(int,int,int)", "int cell(int,int,int)",
        "int change(int,int,int)", "int coin(int,int,int)", "int coins(int,int,int,int)",
        "int copy(int,int,int,int,int)", "int count(int)", "int day()", "int drawn(int,int)",
        "int exact(int,int,int)", "int feed(int)", "int film(int,int,int)", "int force(int)", "int has(int,int)",
        "int image()", "int pay(int,int)", "int run(int,int,int)", "int set(int,int,int)",
        "int sheet(int,int,int)", "int taken(int,int)", "int tells(int,int,int)", "int text()",
        "int told(int,int)", "int wise(int,int,int,int)", "long chance(int,int,int,int,int)"};
    private static final Path SOURCE = Path.of("src/main/java/GoldTurnsBack.java");

    public static void main(String[] args) throws IOException {
        theClass();
        theMethods();
        theConstants();
        String source = Files.readString(SOURCE, StandardCharsets.US_ASCII);
        theDocumentsFace(source);
        theGroups(source);
        theSource(source);
        due.end();
    }

    /** Each line of the document's face stands in the source word by word, the names of what is handed over too. */
    private static void theDocumentsFace(String source) {
        Matcher face = Pattern.compile("(?s)## The public face\\s+```java\n(.*?)\n\\}\n```").matcher(Document.words());
        due.holds("the document has a face", face.find());
        int methods = 0;
        for (String line : face.group(1).split("\n")) {
            boolean called = line.endsWith(");");
            methods += line.matches(" +public (int|long) \\w+\\(.*") ? 1 : 0;
            due.holds(line.trim(), source.contains(called ? line.replace(");", ") {") : line));
        }
        due.is("methods of the document", methods, METHODS.length);
    }

    /** The calls stand in the document's order, each group under its name. */
    private static void theGroups(String source) {
        int at = 0;
        for (List<String> group : Document.groups()) {
            at = source.indexOf("    // ---- " + group.get(0) + "\n", at);
            due.holds("---- " + group.get(0), at >= 0);
            for (String call : group.subList(1, group.size())) {
                Matcher m = Pattern.compile("    public (int|long) " + call + "\\(").matcher(source);
                boolean found = m.find(Math.max(0, at));
                due.holds(call + " stands behind what is ahead of it", found);
                at = found ? m.end() : at;
            }
        }
        due.is("groups", Document.groups().size(), 6);
    }

    private static void theClass() {
        Class<?> c = GoldTurnsBack.class;
        due.holds("public and final", Modifier.isPublic(c.getModifiers()) && Modifier.isFinal(c.getModifiers()));
        Constructor<?>[] made = c.getDeclaredConstructors();
        due.is("constructors", made.length, 1);
        due.holds("a public one without parameters",
                Modifier.isPublic(made[0].getModifiers()) && made[0].getParameterCount() == 0);
        for (Class<?> inside : c.getDeclaredClasses()) {
            due.holds(inside + " is static", Modifier.isStatic(inside.getModifiers()));
            due.holds(inside + " is not public", !Modifier.isPublic(inside.getModifiers()));
        }
        due.holds("at most twelve classes", c.getDeclaredClasses().length < 12);
    }

    private static void theMethods() {
        Set<String> open = new TreeSet<>();
        Set<String> names = new TreeSet<>();
        for (Method m : GoldTurnsBack.class.getDeclaredMethods()) {
            if (Modifier.isPublic(m.getModifiers())) {
                names.add(m.getName());
                StringBuilder b = new StringBuilder(m.getReturnType() + " " + m.getName() + "(");
                for (Class<?> p : m.getParameterTypes()) {
                    b.append(b.charAt(b.length() - 1) == '(' ? "" : ",").append(p);
                }
                open.add(b.append(")").toString());
            }
        }
        due.holds("the public methods: " + open, open.equals(new TreeSet<>(Set.of(METHODS))));
        for (Method m : GoldTurnsBack.class.getDeclaredMethods()) {
            if (!Modifier.isPublic(m.getModifiers())) {
                due.holds(m + " is private", Modifier.isPrivate(m.getModifiers()));
                due.holds(m + " has a name of its own", !names.contains(m.getName()));
            }
            due.holds(m + " takes at most seven", m.getParameterCount() <= 7);
        }
        for (Class<?> inside : GoldTurnsBack.class.getDeclaredClasses()) {
            for (Method m : inside.getDeclaredMethods()) {
                due.holds(m + " has a name of its own", !names.contains(m.getName()));
            }
        }
    }

    private static void theConstants() {
        Set<String> open = new TreeSet<>();
        for (Field f : GoldTurnsBack.class.getDeclaredFields()) {
            if (Modifier.isPublic(f.getModifiers())) {
                open.add(f.getType() + " " + f.getName());
            } else {
                due.holds(f + " is private", Modifier.isPrivate(f.getModifiers()));
            }
            if (Modifier.isStatic(f.getModifiers())) {
                due.holds(f + " is final", Modifier.isFinal(f.getModifiers()));
            }
        }
        due.holds("the public constants: " + open,
                open.equals(Set.of("int NONE", "int BAD", "int STATE", "int FULL", "long NO")));
        due.is("NONE", GoldTurnsBack.NONE, -1);
        due.is("BAD", GoldTurnsBack.BAD, -2);
        due.is("STATE", GoldTurnsBack.STATE, -3);
        due.is("FULL", GoldTurnsBack.FULL, -4);
        due.is("NO", GoldTurnsBack.NO, -4611686018427387904L);
    }

    private static void theSource(String source) {
        String code = source.replaceAll("(?s)/\\*.*?\\*/", "").replaceAll("//[^\n]*", "");
        String[] none = {"throw", "throws", "try", "catch", "synchronized", "assert", "package", "native",
            "Exception", "System\\.(?!arraycopy)\\w+", "Random", "Thread", "Object", "hashCode", "toString",
            "->", "::", "Exact\\("};
        for (String n : none) {
            Matcher m = Pattern.compile(Character.isLetter(n.charAt(0)) ? "\\b" + n : n).matcher(code);
            due.holds("no " + n + " in the source", !m.find());
        }
        Matcher imports = Pattern.compile("import ([^;]*);").matcher(code);
        while (imports.find()) {
            due.holds(imports.group(), Set.of("java.util.Arrays").contains(imports.group(1)));
        }
        Matcher loops = Pattern.compile("\\bwhile\\b").matcher(code);
        due.holds("no while: every loop counts against a bound", !loops.find());
        methodsAreShort(code);
    }

    private static void methodsAreShort(String code) {
        String[] lines = code.split("\n", -1);
        int began = 0;
        for (int i = 0; i < lines.length; i++) {
            if (lines[i].matches("( {4}| {8})[^ }/].*\\) \\{")) {
                began = i;
            }
            if (lines[i].matches(" {4}(| {4})\\}")) {
                due.holds("short: " + lines[began].trim(), i - began <= 60 || lines[began].contains("class"));
                began = i;
            }
        }
    }
}
