import java.io.IOException;
import java.lang.reflect.Constructor;
import java.lang.reflect.Field;
import java.lang.reflect.Method;
import java.lang.reflect.Modifier;
import java.nio.file.Files;
import java.nio.file.Path;
import java.util.Set;
import java.util.TreeSet;
import java.util.regex.Matcher;
import java.util.regex.Pattern;

/** The public face is the document's, and the source keeps to the language rules that can be seen here. */
public final class FaceTest {
    private static final String[] METHODS = {
        "box 4", "thing 4", "sheet 3", "drop 2", "set 2", "say 1", "wipe 0", "fault 0", "lay 0", "need 3",
        "least 2", "does 3", "taken 1", "shortBy 4", "slant 2", "slants 2", "saved 1", "roll 3", "cheaper 6",
        "narrow 2", "pieces 3", "cut 2", "most 2", "usedUp 2", "pleat 2", "match 1", "ribbon 2", "corners 3",
        "fits 2", "tight 1", "paired 2", "mark 2", "iron 1", "hidden 4", "undone 2", "year 4", "image 1",
        "restore 1", "told 1"};
    private static final Set<String> CONSTANTS = Set.of("UNKNOWN", "OUTSIDE", "STATE", "FULL", "NO", "NONE");
    private static int wrong = 0;

    private static void must(boolean holds, String what) {
        if (!holds) {
            wrong++;
            System.out.println(what);
        }
    }

    public static void main(String[] args) throws IOException {
        face();
        documentFace(Files.readString(Path.of("../shared/DOC.md")));
        insideClasses();
        source(Files.readString(Path.of("src/main/java/PaperBoxes.java")));
        System.out.println(wrong == 0 ? "the face is the document's" : wrong + " faults");
        if (wrong != 0) {
            System.exit(1);
        }
    }

    private static void face() {
        Class<?> type = PaperBoxes.class;
        must(Modifier.isPublic(type.getModifiers()) && Modifier.isFinal(type.getModifiers()), "public final class");
        Constructor<?>[] constructors = type.getDeclaredConstructors();
        must(constructors.length == 1 && constructors[0].getParameterCount() == 0
                && Modifier.isPublic(constructors[0].getModifiers()), "one public constructor of no arguments");
        Set<String> wanted = new TreeSet<>(Set.of(METHODS));
        Set<String> found = new TreeSet<>();
        for (Method method : type.getDeclaredMethods()) {
            if (!Modifier.isPrivate(method.getModifiers())) {
                found.add(method.getName() + " " + method.getParameterCount());
                must(Modifier.isPublic(method.getModifiers()) && method.getReturnType() == int.class,
                        method.getName() + " is public and answers an int");
            }
        }
        must(found.equals(wanted), "the methods are " + found);
        for (Field field : type.getDeclaredFields()) {
            boolean isConstant = CONSTANTS.contains(field.getName());
            must(isConstant == Modifier.isPublic(field.getModifiers())
                    && (isConstant || Modifier.isPrivate(field.getModifiers())), "field " + field.getName());
            must(!Modifier.isStatic(field.getModifiers()) || Modifier.isFinal(field.getModifiers()),
                    "static field " + field.getName() + " is final");
        }
    }

    /** Each line of the face in the document, with the types of all arguments and the constants' numbers. */
    private static void documentFace(String document) {
        Matcher block = Pattern.compile("(?s)```java\n(.*?)```").matcher(document);
        must(block.find(), "the document has a face");
        Set<String> wanted = new TreeSet<>();
        Matcher line = Pattern.compile("public (int \\w+)\\((.*?)\\);").matcher(block.group(1));
        while (line.find()) {
            wanted.add(line.group(1) + "(" + line.group(2).replaceAll("(\\w+) \\w+", "$1") + ")");
        }
        Matcher constant = Pattern.compile("([A-Z]+) = (-\\d)").matcher(block.group(1));
        while (constant.find()) {
            wanted.add(constant.group(1) + " = " + constant.group(2));
        }
        must(wanted.equals(ownFace()), "the document's face is " + wanted);
    }

    private static Set<String> ownFace() {
        Set<String> found = new TreeSet<>();
        for (Method method : PaperBoxes.class.getDeclaredMethods()) {
            if (Modifier.isPublic(method.getModifiers())) {
                StringBuilder types = new StringBuilder();
                for (Class<?> type : method.getParameterTypes()) {
                    types.append(types.length() == 0 ? "" : ", ").append(type);
                }
                found.add(method.getReturnType() + " " + method.getName() + "(" + types + ")");
                must(!Modifier.isStatic(method.getModifiers()) && method.getExceptionTypes().length == 0,
                        method.getName() + " is of the object, and throws nothing");
            }
        }
        for (Field field : PaperBoxes.class.getFields()) {
            must(field.getType() == int.class && Modifier.isStatic(field.getModifiers()), field + " is a constant int");
            found.add(field.getName() + " = " + numberOf(field));
        }
        return found;
    }

    private static String numberOf(Field field) {
        try {
            return String.valueOf(field.get(null));
        } catch (IllegalAccessException e) {
            return "not to be seen";
        }
    }

    private static void insideClasses() {
        Set<String> names = new TreeSet<>();
        for (String method : METHODS) {
            names.add(method.substring(0, method.indexOf(' ')));
        }
        Class<?>[] inside = PaperBoxes.class.getDeclaredClasses();
        must(inside.length < 12, "at most twelve classes");
        fewFields(PaperBoxes.class);
        for (Class<?> type : inside) {
            must(Modifier.isStatic(type.getModifiers()) && !Modifier.isPublic(type.getModifiers())
                    && !Modifier.isProtected(type.getModifiers()), type + " is static and not to be seen");
            fewFields(type);
            for (Method method : type.getDeclaredMethods()) {
                must(!names.contains(method.getName()), type + " has a method of the face's name " + method.getName());
                must(method.getParameterCount() <= 7, method + " has at most seven parameters");
            }
        }
        for (Method method : PaperBoxes.class.getDeclaredMethods()) {
            must(!Modifier.isPrivate(method.getModifiers()) || !names.contains(method.getName()),
                    "private method of a public name " + method.getName());
            must(method.getParameterCount() <= 7, method + " has at most seven parameters");
        }
    }

    private static void fewFields(Class<?> type) {
        int fields = 0;
        for (Field field : type.getDeclaredFields()) {
            fields += Modifier.isStatic(field.getModifiers()) ? 0 : 1;
        }
        must(fields <= 20, type + " has " + fields + " fields beside its constants");
    }

    private static void methodsAreShort(String[] lines) {
        int begin = -1;
        String indent = "";
        for (int i = 0; i < lines.length; i++) {
            String line = lines[i];
            if (begin < 0 && line.matches(" +[^=]*\\)( throws \\w+)? \\{") && !line.contains(" new ")) {
                begin = i;
                indent = line.substring(0, line.length() - line.stripLeading().length());
            } else if (begin >= 0 && line.equals(indent + "}")) {
                must(i - begin < 60, "the method of line " + (begin + 1) + " is long");
                begin = -1;
            }
        }
        must(begin < 0, "each method has an end");
    }

    private static void source(String text) {
        methodsAreShort(text.split("\n"));
        String code = text.replaceAll("(?s)/\\*.*?\\*/", "").replaceAll("//[^\n]*", "");
        Matcher banned = Pattern.compile("\\b(throw|throws|try|catch|synchronized|assert|import|package|System|"
                + "Object|protected|native|volatile|double|float)\\b|->|::|Exact\\b|@").matcher(code);
        must(!banned.find(), "the source has what the rules leave out");
        for (int i = 0; i < text.length(); i++) {
            must(text.charAt(i) < 127, "a sign beyond 126 at " + i);
        }
        // rows are made with the object, so that 512 calls fill no room
        Matcher made = Pattern.compile("(?m)^(.*)\\bnew\\b").matcher(code);
        while (made.find()) {
            must(made.group(1).trim().matches("private final [A-Za-z]+(\\[\\])? [A-Za-z]+ ="),
                    "made outside a field: " + made.group());
        }
    }
}
