import java.io.IOException;
import java.lang.reflect.Constructor;
import java.lang.reflect.Field;
import java.lang.reflect.Method;
import java.lang.reflect.Modifier;
import java.nio.file.Files;
import java.nio.file.Path;
import java.util.ArrayList;
import java.util.List;
import java.util.Set;
import java.util.TreeSet;
import java.util.regex.Pattern;

/** What a machine can see of LANGUAGE.md: the face by reflection, the rest in the source's text. */
public final class RuleTests {
    private static final String[] FACE = {
        "type(char)", "clearText()", "read()", "written(int)", "size()", "node(int,int)",
        "child(int,int)", "neighbour(int,int)", "ancestorAt(int,int)", "common(int,int)",
        "way(int,int,int)", "level(int,int)", "byPostorder(int)", "deepest(int)", "bracket(int,int)",
        "setWidth(int)", "block(int,int)", "space(int)", "setLabel(int,char)", "labelled(int,char)",
        "select(int,char,int)", "ancestorWith(int,char)", "areEqual(int,int)", "copies(int)",
        "insert(int,int,char)", "wrap(int,int,int,char)", "remove(int)", "cut(int)",
        "move(int,int,int)", "undo()"};
    private static final String[] CONSTANTS = {"UNKNOWN", "BAD_VALUE", "NOT_POSSIBLE", "FULL", "NONE"};
    private static final String[] OUTSIDE = {
        "\\bthrows?\\b", "\\btry\\b", "\\bcatch\\b", "\\bfinally\\b", "\\bsynchronized\\b", "\\bassert\\b",
        "\\bimport\\b", "\\bpackage\\b", "\\bprotected\\b", "\\bvolatile\\b", "\\btransient\\b", "->",
        "::", "static\\s*\\{", "\\bequals\\b", "\\bhashCode\\b", "\\btoString\\b", "Exact\\b", "\\bThread\\b",
        "\\bRandom\\b", "\\bSystem\\.(?!arraycopy)", "\\bObject\\b", "\\bvar\\b"};

    public static void main(String[] args) throws IOException {
        publicFace();
        noOtherMembers();
        String text = Files.readString(Path.of("src/main/java/BracketTree.java"));
        onlyInsideTheLanguage(text);
        shortMethods(text);
        rowsThroughTheTwoDoors(text);
        Check.close("RuleTests");
    }

    private static String signature(Method method) {
        List<String> types = new ArrayList<>();
        for (Class<?> type : method.getParameterTypes()) {
            types.add(type.getSimpleName());
        }
        return method.getName() + "(" + String.join(",", types) + ")";
    }

    private static void publicFace() {
        Class<?> type = BracketTree.class;
        Check.due("public and final", Modifier.PUBLIC | Modifier.FINAL, type.getModifiers());
        Set<String> found = new TreeSet<>();
        for (Method method : type.getDeclaredMethods()) {
            if (Modifier.isPublic(method.getModifiers())) {
                found.add(signature(method));
                Check.due("int " + signature(method), 1, method.getReturnType() == int.class ? 1 : 0);
            }
        }
        Check.due("the public methods are " + found, 1, found.equals(Set.of(FACE)) ? 1 : 0);
        Set<String> constants = new TreeSet<>();
        for (Field field : type.getFields()) {
            constants.add(field.getName());
        }
        Check.due("the constants are " + constants, 1, constants.equals(Set.of(CONSTANTS)) ? 1 : 0);
        Constructor<?>[] constructors = type.getDeclaredConstructors();
        Check.due("one constructor", 1, constructors.length);
        Check.due("without parameters", 0, constructors[0].getParameterCount());
    }

    private static void noOtherMembers() {
        Set<String> names = new TreeSet<>();
        for (String method : FACE) {
            names.add(method.substring(0, method.indexOf('(')));
        }
        for (Method method : BracketTree.class.getDeclaredMethods()) {
            int modifiers = method.getModifiers();
            if (!Modifier.isPublic(modifiers)) {
                Check.due(method + " is private", 1, Modifier.isPrivate(modifiers) ? 1 : 0);
                Check.due(method + " bears a public name", 0, names.contains(method.getName()) ? 1 : 0);
            }
        }
        checkFields(BracketTree.class);
        for (Class<?> inside : BracketTree.class.getDeclaredClasses()) {
            Check.due(inside + " is static", 1, Modifier.isStatic(inside.getModifiers()) ? 1 : 0);
            Check.due(inside + " has no wider face", 0,
                    inside.getModifiers() & (Modifier.PUBLIC | Modifier.PROTECTED));
            checkFields(inside);
        }
        Check.due("at most twelve classes", 1, BracketTree.class.getDeclaredClasses().length < 12 ? 1 : 0);
    }

    private static void checkFields(Class<?> type) {
        for (Field field : type.getDeclaredFields()) {
            int modifiers = field.getModifiers();
            if (Modifier.isStatic(modifiers)) {
                Check.due(field + " is final", 1, Modifier.isFinal(modifiers) ? 1 : 0);
            } else {
                Check.due(field + " is private", 1, Modifier.isPrivate(modifiers) ? 1 : 0);
            }
        }
    }

    private static String withoutComments(String text) {
        return text.replaceAll("(?s)/\\*.*?\\*/", "").replaceAll("//[^\n]*", "");
    }

    private static void onlyInsideTheLanguage(String text) {
        String code = withoutComments(text);
        for (String word : OUTSIDE) {
            Check.due("the source holds " + word, 0, Pattern.compile(word).matcher(code).find() ? 1 : 0);
        }
        Check.due("ASCII alone", 1, text.chars().allMatch(c -> c < 128) ? 1 : 0);
    }

    // A method's last line is the first brace that stands as far in as its first line.
    private static void shortMethods(String text) {
        String[] lines = text.split("\n");
        for (int start = 0; start < lines.length; start++) {
            String indent = lines[start].replaceAll("\\S.*", "");
            if (lines[start].matches("\\s+.*\\) \\{") && (indent.length() == 4 || indent.length() == 8)) {
                int end = start;
                while (!lines[end].equals(indent + "}")) {
                    end++;
                }
                Check.due("some sixty lines from line " + (start + 1), 1, end - start <= 60 ? 1 : 0);
            }
        }
    }

    // get() and put() test each index; no other line may take a row's element by itself.
    private static void rowsThroughTheTwoDoors(String text) {
        int brackets = 0;
        for (String line : withoutComments(text).split("\n")) {
            brackets += line.matches(".*\\w\\[[^\\]]+\\].*") && !line.contains("new int[") ? 1 : 0;
        }
        Check.due("lines that take an element: those of get and put", 2, brackets);
    }
}
