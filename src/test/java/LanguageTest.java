import java.lang.reflect.Constructor;
import java.lang.reflect.Field;
import java.lang.reflect.Method;
import java.lang.reflect.Modifier;
import java.nio.file.Files;
import java.nio.file.Path;
import java.util.ArrayList;
import java.util.List;
import java.util.Set;
import java.util.TreeSet;
import java.util.regex.Matcher;
import java.util.regex.Pattern;

/** What of LANGUAGE.md and of the document's face can be seen in the source and in the compiled class. */
public final class LanguageTest {
    private static final int MOST_CLASSES = 12;
    private static final int MOST_FIELDS = 20;
    private static final int MOST_PARAMETERS = 7;
    private static final int LONGEST_METHOD = 60;

    public static void main(String[] args) throws Exception {
        face();
        members();
        String code = withoutTextsAndComments(Files.readString(Path.of("src/main/java/RainbowPlate.java")));
        words(code);
        library(code);
        methodLengths(code);
        Checks.finish("LanguageTest");
    }

    private static void none(String what, List<String> found) {
        Checks.due(what + " " + found, found.size(), 0);
    }

    private static void face() throws Exception {
        String doc = Files.readString(Path.of("../shared/DOC.md"));
        String face = doc.substring(doc.indexOf("```java"), doc.indexOf("## Terms"));
        Matcher m = Pattern.compile("public (void|int|boolean) (\\w+)\\(([^)]*)\\)").matcher(face);
        Set<String> want = new TreeSet<>();
        while (m.find()) {
            String kinds = m.group(3).replaceAll(" \\w+(,|$)", "$1").replace(" ", "");
            want.add(m.group(1) + " " + m.group(2) + "(" + kinds + ")");
        }
        Set<String> got = new TreeSet<>();
        for (Method method : RainbowPlate.class.getDeclaredMethods()) {
            if (Modifier.isPublic(method.getModifiers())) {
                List<String> kinds = new ArrayList<>();
                for (Class<?> kind : method.getParameterTypes()) {
                    kinds.add(kind.getName());
                }
                got.add(method.getReturnType().getName() + " " + method.getName() + "(" + String.join(",", kinds) + ")");
            }
        }
        Checks.due("the face is read", want.size(), 48);
        Set<String> missing = new TreeSet<>(want);
        missing.removeAll(got);
        none("not there of the face", new ArrayList<>(missing));
        got.removeAll(want);
        none("public beyond the face", new ArrayList<>(got));
    }

    private static void members() {
        List<Class<?>> all = new ArrayList<>(List.of(RainbowPlate.class.getDeclaredClasses()));
        List<String> wrong = new ArrayList<>();
        Set<String> open = new TreeSet<>();
        for (Method method : RainbowPlate.class.getDeclaredMethods()) {
            if (Modifier.isPublic(method.getModifiers())) {
                open.add(method.getName());
            } else if (!Modifier.isPrivate(method.getModifiers()) && !method.isSynthetic()) {
                wrong.add("visible " + method);
            }
        }
        for (Class<?> inner : all) {
            if (!Modifier.isStatic(inner.getModifiers()) || Modifier.isPublic(inner.getModifiers())) {
                wrong.add("kind of " + inner);
            }
        }
        all.add(RainbowPlate.class);
        Checks.due("at most twelve classes", all.size() <= MOST_CLASSES, true);
        for (Class<?> one : all) {
            checkClass(one, open, wrong);
        }
        for (Constructor<?> made : RainbowPlate.class.getDeclaredConstructors()) {
            if (made.getParameterCount() != 0) {
                wrong.add("constructor " + made);
            }
        }
        Checks.due("final", Modifier.isFinal(RainbowPlate.class.getModifiers()), true);
        none("members", wrong);
    }

    private static void checkClass(Class<?> one, Set<String> open, List<String> wrong) {
        int own = 0;
        for (Field field : one.getDeclaredFields()) {
            boolean fixed = Modifier.isStatic(field.getModifiers());
            own += fixed ? 0 : 1;
            if (fixed && !Modifier.isFinal(field.getModifiers())) {
                wrong.add("static " + field);
            }
            if (one == RainbowPlate.class && !Modifier.isPrivate(field.getModifiers()) && !field.getName().equals("NONE")) {
                wrong.add("visible " + field);
            }
        }
        if (own > MOST_FIELDS) {
            wrong.add(own + " fields in " + one);
        }
        for (Method method : one.getDeclaredMethods()) {
            if (method.getParameterCount() > MOST_PARAMETERS) {
                wrong.add("parameters of " + method);
            }
            boolean ofTheFace = one == RainbowPlate.class && Modifier.isPublic(method.getModifiers());
            if (!ofTheFace && open.contains(method.getName())) {
                wrong.add("bears a name of the face " + method);
            }
        }
    }

    private static String withoutTextsAndComments(String source) {
        return source.replaceAll("(?s)/\\*.*?\\*/", "").replaceAll("//[^\n]*", "")
            .replaceAll("\"[^\"\n]*\"", "\"\"").replaceAll("'.'", "' '");
    }

    private static void words(String code) {
        String[] ruledOut = {"\\btry\\b", "\\bcatch\\b", "\\bfinally\\b", "\\bsynchronized\\b", "\\bassert\\b", "->", "::",
            "\\bpackage\\b", "Exact\\b", "\\bdouble\\b", "\\bfloat\\b", "\\bnative\\b", "\\bvolatile\\b", "\\bprotected\\b",
            "\"\" *\\+", "\\+ *\"\"", "\\bstatic *\\{", "\\bObject\\b", "\\bThread\\b", "\\bRandom\\b", "\\bSystem\\b"};
        for (String word : ruledOut) {
            List<String> found = new ArrayList<>();
            Matcher m = Pattern.compile(word).matcher(code);
            while (m.find()) {
                found.add(m.group());
            }
            none("ruled out: " + word, found);
        }
        List<String> thrown = new ArrayList<>();
        Matcher m = Pattern.compile("throw new (\\w+)").matcher(code);
        while (m.find()) {
            if (!Set.of("IllegalArgumentException", "IndexOutOfBoundsException", "UnsupportedOperationException",
                    "NoSuchElementException").contains(m.group(1))) {
                thrown.add(m.group(1));
            }
        }
        none("thrown", thrown);
    }

    private static void library(String code) {
        List<String> wrong = new ArrayList<>();
        Matcher m = Pattern.compile("import ([\\w.]+);").matcher(code);
        while (m.find()) {
            if (!Set.of("java.util.Arrays", "java.util.NoSuchElementException").contains(m.group(1))) {
                wrong.add(m.group());
            }
        }
        m = Pattern.compile("\\b(Math|Integer|Long|Arrays|String|StringBuilder)\\.(\\w+)").matcher(code);
        while (m.find()) {
            if (!Set.of("abs", "min", "max", "floorDiv", "floorMod", "bitCount", "copyOf", "fill").contains(m.group(2))) {
                wrong.add(m.group());
            }
        }
        none("library", wrong);
    }

    /** Methods stand four or eight blanks deep, and end by a brace as deep. */
    private static void methodLengths(String code) {
        List<String> wrong = new ArrayList<>();
        String[] rows = code.split("\n");
        for (int n = 0; n < rows.length; n++) {
            String row = rows[n];
            if (row.matches("( {4}| {8})[\\w\\[\\]<> ]+\\([^)]*\\).*") && !row.contains(";")) {
                String deep = row.substring(0, row.length() - row.stripLeading().length());
                int end = n;
                while (end < rows.length && !rows[end].equals(deep + "}")) {
                    end++;
                }
                if (end - n > LONGEST_METHOD) {
                    wrong.add(row.strip());
                }
            }
        }
        none("long methods", wrong);
    }
}
