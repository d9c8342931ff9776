import java.io.IOException;
import java.lang.reflect.Constructor;
import java.lang.reflect.Field;
import java.lang.reflect.Method;
import java.lang.reflect.Modifier;
import java.nio.file.Files;
import java.nio.file.Path;
import java.util.ArrayList;
import java.util.Collections;
import java.util.List;
import java.util.Set;
import java.util.TreeSet;
import java.util.regex.Matcher;
import java.util.regex.Pattern;

/** The face of the class (rule 1 of LANGUAGE.md), and what of the other rules its text shows. */
public final class LanguageTests {
    private static final List<String> FACE = List.of(
            "int append(int,int,int,int,int)", "int truncate(int)", "int load()", "int insert(int)",
            "int setCondition(int)", "int errorPosition()", "boolean rename(int,int)", "int remove(int)",
            "boolean move(int,int,int)", "int setKind(int,int,int,int)", "int publish()", "int begin()",
            "int answer(int,int,int)", "int advance(int)", "int undo()", "int value(int)", "int node(int,int)",
            "int letter(int,int)", "int named(int)", "int nodeAt(int)", "int dependsOn(int)", "int dependents(int)",
            "int inOrder(int)", "boolean wouldRefuse(int,int)", "boolean exists(int,int)", "int revisionOf(int)",
            "int answers(int)", "boolean isShown(int,int,int)", "int inForce(int,int,int)", "int open(int)",
            "float completeness(int)", "float average(int)", "int tally(int,int)", "int rows(boolean,int)",
            "int place(boolean,int,int,boolean)", "int pages(int)", "int textLength(boolean,int)",
            "int textByte(boolean,int,int)", "int setupLength()", "int setupByte(int)", "int tapeLength()");

    /** Words that the rules leave no room for. */
    private static final String[] BANNED = {"->", "::", "\\bcatch\\b", "\\bthrow\\b", "\\bfinally\\b", "\\bassert\\b",
        "\\bsynchronized\\b", "\\bimport\\b", "\\bpackage\\b", "\\bvar\\b", "\\bnative\\b", "\\btransient\\b",
        "\\bvolatile\\b", "\\bSystem\\b", "\\bObject\\b", "\\bThread\\b", "\\bRandom\\b", "\\bequals\\s*\\(",
        "\\bhashCode\\b", "\\btoString\\s*\\(\\)\\s*\\{", "Exact\\s*\\(", "static\\s*\\{", "\\bwhile\\s*\\(true\\)",
        "\"\\s*\\+", "\\+\\s*\"", "\\bList\\b", "\\bArrays\\b", "\\bdouble\\b"};

    private static int wrong;

    public static void main(String[] args) throws IOException {
        face();
        String source = bare(Files.readString(Path.of(args[0])));
        words(source);
        methods(source);
        fields();
        System.out.println("LanguageTests: " + wrong + " faults");
        System.exit(wrong == 0 ? 0 : 1);
    }

    private static void fault(String text) {
        wrong++;
        System.out.println(text);
    }

    private static void face() {
        Class<?> type = FormDesigner.class;
        if (type.getModifiers() != (Modifier.PUBLIC | Modifier.FINAL)) {
            fault("the class is not public and final");
        }
        Set<String> visible = new TreeSet<>();
        Set<String> names = new TreeSet<>();
        for (Method method : type.getDeclaredMethods()) {
            if (!Modifier.isPrivate(method.getModifiers())) {
                visible.add(signature(method));
                names.add(method.getName());
            }
            if (Modifier.isPublic(method.getModifiers()) && Modifier.isStatic(method.getModifiers())) {
                fault("static: " + method);
            }
        }
        if (!visible.equals(new TreeSet<>(FACE))) {
            fault("the methods are " + visible);
        }
        for (Field field : type.getDeclaredFields()) {
            boolean constant = field.getName().equals("INVALID") || field.getName().equals("NOT_FOUND");
            int want = constant ? Modifier.PUBLIC | Modifier.STATIC | Modifier.FINAL : Modifier.PRIVATE;
            if (constant ? field.getModifiers() != want : !Modifier.isPrivate(field.getModifiers())) {
                fault("field " + field);
            }
        }
        for (Constructor<?> constructor : type.getDeclaredConstructors()) {
            if (constructor.getParameterCount() != 0 || !Modifier.isPublic(constructor.getModifiers())) {
                fault("constructor " + constructor);
            }
        }
        for (Class<?> inner : type.getDeclaredClasses()) {
            for (Method method : inner.getDeclaredMethods()) {
                if (names.contains(method.getName())) {
                    fault("the name of a public method: " + method);
                }
            }
        }
        for (Method method : type.getDeclaredMethods()) {
            if (Modifier.isPrivate(method.getModifiers()) && names.contains(method.getName())) {
                fault("the name of a public method: " + method);
            }
        }
    }

    private static String signature(Method method) {
        StringBuilder text = new StringBuilder(method.getReturnType().getName());
        text.append(' ').append(method.getName()).append('(');
        for (int i = 0; i < method.getParameterCount(); i++) {
            text.append(i == 0 ? "" : ",").append(method.getParameterTypes()[i].getName());
        }
        return text.append(')').toString();
    }

    /** The source without its comments; its strings stay, as none holds a slash. */
    private static String bare(String source) {
        return source.replaceAll("(?s)/\\*.*?\\*/", "").replaceAll("//[^\n]*", "");
    }

    private static void words(String source) {
        for (String banned : BANNED) {
            Matcher matcher = Pattern.compile(banned).matcher(source);
            if (matcher.find()) {
                fault("against the rules: " + matcher.group());
            }
        }
        for (int i = 0; i < source.length(); i++) {
            if (source.charAt(i) > 126) {
                fault("a sign above 126 at " + i);
            }
        }
        Matcher library = Pattern.compile("\\b(Math|Integer|Long)\\.(\\w+)").matcher(source);
        while (library.find()) {
            if (!Set.of("floorMod", "min", "max", "bitCount").contains(library.group(2))) {
                fault("library: " + library.group());
            }
        }
    }

    /** Rule 11: sixty lines a method and seven parameters. */
    private static void methods(String source) {
        String[] lines = source.split("\n");
        int begun = -1;
        for (int i = 0; i < lines.length; i++) {
            if (lines[i].matches("    (    )?[^ /].*\\) \\{")) {
                begun = i;
            }
            if (lines[i].matches("    (    )?\\}") && begun >= 0) {
                if (i - begun > 60) {
                    fault("a long method: " + lines[begun]);
                }
                begun = -1;
            }
        }
        List<Class<?>> classes = new ArrayList<>(List.of(FormDesigner.class.getDeclaredClasses()));
        classes.add(FormDesigner.class);
        for (Class<?> type : classes) {
            for (Method method : type.getDeclaredMethods()) {
                if (method.getParameterCount() > 7) {
                    fault("many parameters: " + method);
                }
            }
        }
        if (classes.size() > 12) {
            fault("there are " + classes.size() + " classes");
        }
    }

    private static void fields() {
        List<Class<?>> classes = new ArrayList<>();
        Collections.addAll(classes, FormDesigner.class.getDeclaredClasses());
        classes.add(FormDesigner.class);
        for (Class<?> type : classes) {
            int number = 0;
            for (Field field : type.getDeclaredFields()) {
                boolean constant = Modifier.isStatic(field.getModifiers());
                number += constant ? 0 : 1;
                if (constant && !Modifier.isFinal(field.getModifiers())) {
                    fault("static state: " + field);
                }
            }
            if (number > 20) {
                fault("many fields: " + type);
            }
            if (type != FormDesigner.class && !staticAndHidden(type.getModifiers())) {
                fault("an inner class: " + type);
            }
        }
    }

    private static boolean staticAndHidden(int modifiers) {
        return Modifier.isStatic(modifiers) && !Modifier.isPublic(modifiers) && !Modifier.isProtected(modifiers);
    }
}
