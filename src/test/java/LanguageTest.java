import java.io.IOException;
import java.lang.reflect.Constructor;
import java.lang.reflect.Field;
import java.lang.reflect.Method;
import java.lang.reflect.Modifier;
import java.nio.file.Files;
import java.nio.file.Path;
import java.util.Arrays;
import java.util.List;
import java.util.TreeSet;
import java.util.regex.Matcher;
import java.util.regex.Pattern;

/** What of ../shared/LANGUAGE.md can be seen by looking at the source and at the class; run from the project's folder. */
public final class LanguageTest {
    private static final Check CHECK = new Check();
    private static final String[] FACE = {"feed 5", "line 1 IllegalArgumentException", "fault 0",
        "count 1 NoSuchElementException", "set 1 NoSuchElementException", "flying 2 NoSuchElementException",
        "slot 1 NoSuchElementException", "played 2 NoSuchElementException",
        "spans 2 NoSuchElementException IllegalArgumentException", "sample 1 NoSuchElementException",
        "wander 1 IllegalArgumentException", "steps 1", "lose 1", "stall 1", "turn 2 NoSuchElementException", "undo 0",
        "then 2 NoSuchElementException IllegalArgumentException", "when 1 NoSuchElementException", "settles 0",
        "toAim 2 NoSuchElementException IllegalArgumentException",
        "toGain 2 NoSuchElementException IllegalArgumentException", "note 2", "other 1 NoSuchElementException",
        "look 1 NoSuchElementException", "forget 0", "storms 2 IllegalArgumentException",
        "years 3 NoSuchElementException IllegalArgumentException", "image 0", "restore 0"};
    private static final String[] BANNED = {"->", "::", "\\bcatch\\b", "\\btry\\b", "\\bfinally\\b", "\\bsynchronized\\b",
        "\\bassert\\b", "\\bsystem\\.(?!arraycopy)", "Exact\\(", "static \\{", "\\bThread\\b", "\\bRandom\\b", "\" \\+",
        "\\+ \"", "\\bObject\\b", "\\bhashCode\\b", "\\btoString\\b", "\\bwhile \\(true\\)", "for \\(;;\\)", "\\bstrictfp\\b",
        "\\bnative\\b", "\\bvolatile\\b", "\\bdouble\\b", "\\bfloat\\b", "[^\\x00-\\x7f]", "@"};

    private LanguageTest() {
    }

    public static void main(String[] args) throws IOException {
        source(Files.readString(Path.of("src/main/java/CircuitCells.java")));
        face();
        classesInside();
        CHECK.end();
    }

    private static void source(String text) {
        CHECK.begin("the source");
        for (String banned : BANNED) {
            CHECK.is("rows with " + banned, Pattern.compile(banned).matcher(text).results().count(), 0);
        }
        Matcher imports = Pattern.compile("^import (.*);$", Pattern.MULTILINE).matcher(text);
        while (imports.find()) {
            boolean known = List.of("java.util.Arrays", "java.util.NoSuchElementException").contains(imports.group(1));
            CHECK.is("import of " + imports.group(1), known, true);
        }
        CHECK.is("package", text.contains("package "), false);
        CHECK.is("public class", Pattern.compile("\\bpublic\\b.*\\bclass\\b").matcher(text).results().count(), 1);
        CHECK.is("array's places read or written outside of at() and put()",
            Pattern.compile("\\w\\[[^\\]]").matcher(text.replaceAll("new int\\[[^\\]]*\\]", "")).results().count(), 2);
    }

    private static void face() {
        CHECK.begin("the face");
        TreeSet<String> due = new TreeSet<>(Arrays.asList(FACE));
        TreeSet<String> got = new TreeSet<>();
        for (Method method : CircuitCells.class.getDeclaredMethods()) {
            int modifiers = method.getModifiers();
            if (Modifier.isPublic(modifiers)) {
                StringBuilder text = new StringBuilder(method.getName() + " " + method.getParameterCount());
                for (Class<?> thrown : method.getExceptionTypes()) {
                    text.append(' ').append(thrown.getSimpleName());
                }
                got.add(text.toString());
            } else {
                CHECK.is(method + " is private", Modifier.isPrivate(modifiers), true);
                noFaceName(method);
            }
        }
        for (String one : due) {
            CHECK.is(one, got.contains(one), true);
        }
        CHECK.is("public methods", got.size(), due.size());
        for (Field field : CircuitCells.class.getDeclaredFields()) {
            CHECK.is(field + " is private, or NONE", Modifier.isPrivate(field.getModifiers()), !field.getName().equals("NONE"));
        }
        for (Constructor<?> one : CircuitCells.class.getDeclaredConstructors()) {
            CHECK.is("the constructor", Modifier.isPublic(one.getModifiers()) && one.getParameterCount() == 0, true);
        }
        CHECK.is("final", Modifier.isFinal(CircuitCells.class.getModifiers()), true);
    }

    private static void noFaceName(Method method) {
        for (String one : FACE) {
            CHECK.is(method + " bears a name of the face", method.getName().equals(one.substring(0, one.indexOf(' '))), false);
        }
    }

    private static void classesInside() {
        CHECK.begin("the classes inside");
        Class<?>[] classes = CircuitCells.class.getDeclaredClasses();
        CHECK.is("at most twelve in all", classes.length < 12, true);
        for (Class<?> inside : classes) {
            CHECK.is(inside + " is static", Modifier.isStatic(inside.getModifiers()), true);
            CHECK.is(inside + " is not public", Modifier.isPublic(inside.getModifiers()), false);
            int fields = 0;
            for (Field field : inside.getDeclaredFields()) {
                boolean isStatic = Modifier.isStatic(field.getModifiers());
                CHECK.is(field + " is final, if static", !isStatic || Modifier.isFinal(field.getModifiers()), true);
                fields += isStatic ? 0 : 1;
            }
            CHECK.is(inside + " has at most twenty fields", fields <= 20, true);
            for (Method method : inside.getDeclaredMethods()) {
                CHECK.is(method + " is not public", Modifier.isPublic(method.getModifiers()), false);
                CHECK.is(method + " has at most seven parameters", method.getParameterCount() <= 7, true);
                noFaceName(method);
            }
        }
    }
}
