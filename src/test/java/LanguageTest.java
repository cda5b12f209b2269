import java.io.IOException;
import java.lang.reflect.Field;
import java.lang.reflect.Method;
import java.lang.reflect.Modifier;
import java.nio.file.Files;
import java.nio.file.Path;
import java.util.ArrayDeque;
import java.util.Arrays;
import java.util.Set;
import java.util.TreeSet;
import java.util.regex.Matcher;
import java.util.regex.Pattern;

/** The face of the class, and the rules of LANGUAGE.md that can be seen from outside or from the words of the file. */
public final class LanguageTest {
    private static final int MAX = Integer.MAX_VALUE;
    private static final String[] FACE = {
        "int pillar(int)", "int weaver(int,int)", "int face(int,int)", "int free(int,int,int,int)", "int far(int,int)",
        "int sees(int,int,int)", "int clear(int,int)", "int knows(int,int,int,int)", "int teller(int,int,int,int)",
        "int meet(int,int,int,int)", "int seen(int,int,boolean)", "int source()", "int apart(int,int)",
        "int like(int,int)", "int word(int,int,int)", "int alike(int,int)", "int lip(int)", "int hush()",
        "int reads(int)", "int mistaken(int)", "int signs(int)", "int plain(int)", "int arrives(int,int,int)",
        "int turns(int,int,int)", "int girl(int)", "int gets()", "int share()", "int teach(int)",
        "int band(int,int,int)", "int heard(int,int)", "int anew(int,int)", "int type(long,int)", "int erase()",
        "int shed()", "int sign(int)", "int limb(int,int)", "int image(int)", "int from(int)", "int count(int)",
        "long digest()",
    };

    public static void main(String[] args) throws IOException {
        face();
        members(ShedTalk.class);
        for (Class<?> inside : ShedTalk.class.getDeclaredClasses()) {
            Due.due(inside + " is static", Modifier.isStatic(inside.getModifiers()) ? 1 : 0, 1);
            Due.due(inside + " is not public", inside.getModifiers() & (Modifier.PUBLIC | Modifier.PROTECTED), 0);
            members(inside);
        }
        Due.due("classes are twelve at most", Math.max(12, 1 + ShedTalk.class.getDeclaredClasses().length), 12);
        words(Files.readString(Path.of("src/main/java/ShedTalk.java")));
        Due.end();
    }

    private static void face() {
        Set<String> open = new TreeSet<>();
        for (Method m : ShedTalk.class.getDeclaredMethods()) {
            if (!Modifier.isPrivate(m.getModifiers())) {
                StringBuilder types = new StringBuilder();
                for (Class<?> type : m.getParameterTypes()) {
                    types.append(types.length() > 0 ? "," : "").append(type.getName());
                }
                open.add(m.getReturnType() + " " + m.getName() + "(" + types + ")");
                Due.due(m + " is public, no more", m.getModifiers(), Modifier.PUBLIC);
            }
        }
        Due.due("the face is " + open, open.equals(new TreeSet<>(Arrays.asList(FACE))) ? 1 : 0, 1);
        Due.due("constructors", ShedTalk.class.getDeclaredConstructors().length, 1);
        Due.due("public constructors", ShedTalk.class.getConstructors().length, 1);
        Due.due("class", ShedTalk.class.getModifiers(), Modifier.PUBLIC | Modifier.FINAL);
        Set<String> constants = new TreeSet<>();
        for (Field f : ShedTalk.class.getDeclaredFields()) {
            if (!Modifier.isPrivate(f.getModifiers())) {
                Due.due(f + "", f.getModifiers(), Modifier.PUBLIC | Modifier.STATIC | Modifier.FINAL);
                constants.add(f.getName());
            }
        }
        Due.due("constants " + constants, constants.equals(Set.of("NONE", "BAD", "NO", "FULL")) ? 1 : 0, 1);
        Due.due("NONE", ShedTalk.NONE, -1);
        Due.due("BAD", ShedTalk.BAD, -2);
        Due.due("NO", ShedTalk.NO, -3);
        Due.due("FULL", ShedTalk.FULL, -4);
    }

    private static void members(Class<?> type) {
        Set<String> names = new TreeSet<>();
        for (String call : FACE) {
            names.add(call.substring(call.indexOf(' ') + 1, call.indexOf('(')));
        }
        for (Method m : type.getDeclaredMethods()) {
            Due.due(m + " takes seven at most", Math.max(7, m.getParameterCount()), 7);
            if (Modifier.isPrivate(m.getModifiers())) {
                Due.due(m + " has no public one's name", names.contains(m.getName()) ? 1 : 0, 0);
            }
        }
        int fields = 0;
        for (Field f : type.getDeclaredFields()) {
            if (Modifier.isStatic(f.getModifiers())) {
                Due.due(f + " is final", Modifier.isFinal(f.getModifiers()) ? 1 : 0, 1);
            } else {
                fields++;
            }
        }
        Due.due(type + " has twenty fields at most", Math.max(20, fields), 20);
    }

    private static void words(String source) {
        String bare = source.replaceAll("(?s)/\\*.*?\\*/", "").replaceAll("//[^\n]*", "")
            .replaceAll("\"[^\"\n]*\"", "\"\"").replaceAll("'[^'\n]+'", "0");
        String[] none = {"\\bthrow", "\\btry\\b", "\\bcatch\\b", "\\bsynchronized\\b", "\\bassert\\b", "\\bThread\\b", "::",
            "^(?!\\s*(case|default)\\b).*->", "\\bpackage\\b", "\\bimport (?!java\\.util\\.)", "Exact\\(", "\\bstatic \\{",
            "\\bnew \\w+(<\\w*>)?\\([^)]*\\) *\\{", "\\[\\]\\[\\]\\[\\]", "for *\\( *; *; *\\)", "while *\\( *true *\\)"};
        for (String word : none) {
            Matcher found = Pattern.compile(word, Pattern.MULTILINE).matcher(bare);
            Due.due("the file has " + word, found.find() ? 1 : 0, 0);
        }
        String library = "System\\.(?!arraycopy\\b)|Arrays\\.(?!(copyOf|copyOfRange|fill)\\b)|String\\.|List\\.(?!of\\b)"
            + "|(Math|Integer|Long)\\.(parse|to|valueOf|random|sqrt|pow|floor\\b|ceil|round)";
        Matcher other = Pattern.compile("\\b(" + library + ")\\w*").matcher(bare);
        Due.due("the file has more of the library", other.find() ? 1 : 0, 0);
        methodsAreShort(bare);
    }

    private static void methodsAreShort(String bare) {
        ArrayDeque<Integer> opened = new ArrayDeque<>();
        String[] lines = bare.split("\n");
        for (int i = 0; i < lines.length; i++) {
            boolean isMethod = lines[i].matches("\\s+(?!if\\b|for\\b|while\\b|switch\\b|do\\b|else\\b|\\}).*\\w+\\(.*\\{\\s*");
            for (char c : lines[i].toCharArray()) {
                if (c == '{') {
                    opened.push(isMethod ? i : MAX);
                } else if (c == '}' && !opened.isEmpty()) {
                    int from = opened.pop();
                    Due.due("lines of the method that ends in " + (i + 1), Math.max(60, i + 1 - from), 60);
                }
            }
        }
        Due.due("braces that are open", opened.size(), 0);
    }
}
