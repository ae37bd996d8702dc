import java.lang.reflect.Constructor;
import java.lang.reflect.Field;
import java.lang.reflect.Method;
import java.lang.reflect.Modifier;
import java.nio.file.Files;
import java.nio.file.Path;
import java.util.Set;
import java.util.TreeSet;
import java.util.regex.Matcher;
import java.util.regex.Pattern;

/** The face as it stands in the document, and those rules of LANGUAGE.md that a text search can see. */
public final class LanguageTest {
    private static int wrong = 0;

    private static void wrong(String what) {
        wrong++;
        System.out.println(what);
    }

    public static void main(String[] args) throws Exception {
        String text = Files.readString(Path.of("src/main/java/SoldNews.java"));
        String code = text.replaceAll("(?s)/\\*.*?\\*/", "").replaceAll("//[^\n]*", "");
        words(code);
        methods(code);
        face();
        classes();
        System.out.println(wrong == 0 ? "the language is kept" : wrong + " breaches");
        if (wrong != 0) {
            System.exit(1);
        }
    }

    /** What the rules rule out, and no more: the file may use all that they leave. */
    private static void words(String code) {
        String[] none = {"\\b(throw|throws|try|catch|finally|synchronized|assert|package)\\b",
            "\\b(Object|Thread|Random|Exception|hashCode|native|volatile)\\b", "\\b(toString|equals)\\([^)]*\\) *\\{",
            "\\bimport (?!java\\.util\\.(ArrayList|List|Arrays|Iterator);)", "\\bSystem\\.(?!arraycopy\\b)",
            "(?m)^(?! *(case|default)\\b).*->", "::", "Exact\\b", "NaN",
            "\\bArrays\\.(?!copyOf\\b|copyOfRange\\b|fill\\b)", "\\bList\\.(?!of\\b)", "\\bMath\\.(sqrt|pow|random|floor|ceil)\\b"};
        for (String one : none) {
            Matcher m = Pattern.compile(one).matcher(code);
            if (m.find()) {
                wrong("found: " + m.group());
            }
        }
        for (char c : code.toCharArray()) {
            if (c > 126) {
                wrong("a sign above 126");
            }
        }
    }

    private static void methods(String code) {
        String[] lines = code.split("\n");
        int from = -1;
        String indent = "";
        for (int i = 0; i < lines.length; i++) {
            Matcher head = Pattern.compile("^( {4}| {8})(?!return|new|else)[\\w\\[\\] ]+\\(.*\\) \\{$").matcher(lines[i]);
            if (head.matches() && !lines[i].matches(" *(if|for|while|switch) .*")) {
                from = i;
                indent = head.group(1);
                if (lines[i].split(",").length > 7) {
                    wrong("more than seven parameters: " + lines[i]);
                }
            }
            if (from >= 0 && lines[i].equals(indent + "}")) {
                if (i - from > 60) {
                    wrong("a long method: " + lines[from]);
                }
                from = -1;
            }
        }
    }

    private static void face() {
        Set<String> due = new TreeSet<>();
        String told = "int letters(long);int blank();int fault();int market();int told(int,int);int buyer(int,int);"
            + "int change(int,int,int);int news(int,int);int as(int,int);long heard(int,int,int);"
            + "long edge(int,int,int);int rests(int,int,int,int);long makes(int,int,int,int,int);"
            + "long worth(int,int,int,int);int whom(int,int);int plainly(int);int more(int,int);"
            + "long pledge(int,int,int);int on(int,int,int);long shut(int,int,int);"
            + "long wrongly(int,int,int,int,int,int);int shown(int,int);long thought(int,int,int,int);"
            + "long bound(int);int run(int,int,int,int,int);int count(int);long digest()";
        for (String one : told.split(";")) {
            due.add(one);
        }
        Set<String> is = new TreeSet<>();
        Set<String> names = new TreeSet<>();
        for (Method m : SoldNews.class.getDeclaredMethods()) {
            if (Modifier.isPublic(m.getModifiers())) {
                StringBuilder types = new StringBuilder();
                for (Class<?> type : m.getParameterTypes()) {
                    types.append(types.length() == 0 ? "" : ",").append(type);
                }
                is.add(m.getReturnType() + " " + m.getName() + "(" + types + ")");
                names.add(m.getName());
            } else if (!Modifier.isPrivate(m.getModifiers())) {
                wrong("neither public nor private: " + m);
            }
        }
        if (!due.equals(is)) {
            wrong("the face is " + is);
        }
        for (Class<?> inside : SoldNews.class.getDeclaredClasses()) {
            privateNames(inside, names);
        }
        for (Method m : SoldNews.class.getDeclaredMethods()) {
            if (Modifier.isPrivate(m.getModifiers()) && names.contains(m.getName())) {
                wrong("a private method with a public name: " + m);
            }
        }
        for (Constructor<?> c : SoldNews.class.getDeclaredConstructors()) {
            if (!Modifier.isPublic(c.getModifiers()) || c.getParameterCount() != 0) {
                wrong("constructor " + c);
            }
        }
        fields();
    }

    private static void privateNames(Class<?> inside, Set<String> names) {
        for (Method m : inside.getDeclaredMethods()) {
            if (names.contains(m.getName())) {
                wrong("a method inside with a public name: " + m);
            }
        }
    }

    private static void fields() {
        Set<String> constants = Set.of("NONE", "UNKNOWN", "OUTSIDE", "STATE", "FULL");
        for (Field f : SoldNews.class.getDeclaredFields()) {
            boolean open = Modifier.isPublic(f.getModifiers());
            if (open != constants.contains(f.getName()) || !open && !Modifier.isPrivate(f.getModifiers())) {
                wrong("a field that is not as told: " + f);
            }
            if (Modifier.isStatic(f.getModifiers()) && !Modifier.isFinal(f.getModifiers())) {
                wrong("static state: " + f);
            }
        }
    }

    private static void classes() {
        Class<?>[] inside = SoldNews.class.getDeclaredClasses();
        if (inside.length > 12) {
            wrong(inside.length + " classes inside");
        }
        for (Class<?> one : inside) {
            if (!Modifier.isStatic(one.getModifiers()) || Modifier.isPublic(one.getModifiers())) {
                wrong("a class that is not as told: " + one);
            }
            if (one.getDeclaredFields().length > 20) {
                wrong("a class of many fields: " + one);
            }
        }
    }
}
