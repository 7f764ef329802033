import java.io.IOException;
import java.lang.reflect.Constructor;
import java.lang.reflect.Field;
import java.lang.reflect.Method;
import java.lang.reflect.Modifier;
import java.nio.file.Files;
import java.nio.file.Path;
import java.util.Arrays;
import java.util.HashSet;
import java.util.List;
import java.util.Set;
import java.util.TreeSet;
import java.util.regex.Matcher;
import java.util.regex.Pattern;

/** The face, and those rules of LANGUAGE.md that can be read off the class or its text. */
public final class AnswerFoldFace {
    private static final String SOURCE = "src/main/java/AnswerFold.java";
    private static final String DOCUMENT = "../shared/DOC.md";
    private static int wrong = 0;

    private static void need(boolean is, String what) {
        if (!is) {
            wrong++;
            System.out.println(what);
        }
    }

    public static void main(String[] args) throws IOException {
        String source = Files.readString(Path.of(SOURCE));
        faceIsAsTheDocumentSays(source, Files.readString(Path.of(DOCUMENT)));
        nothingElseIsSeen();
        classesInside();
        staticFields();
        words(source);
        loopsAreCounted(source);
        System.out.println(wrong == 0 ? "the face is as due" : wrong + " faults of the face");
        if (wrong != 0) {
            System.exit(1);
        }
    }

    /** The public lines of the document's class, but for their ends, stand in the source as they are. */
    private static void faceIsAsTheDocumentSays(String source, String document) {
        int from = document.indexOf("public final class AnswerFold {");
        String block = document.substring(from, document.indexOf("```", from));
        Set<String> due = new TreeSet<>();
        for (String line : block.split("\n")) {
            if (line.startsWith("    public ")) {
                due.add(line.trim().replace(";", " {"));
            }
        }
        need(due.size() == 30, "the document's face has " + due.size() + " lines");
        Set<String> got = new TreeSet<>();
        for (String line : source.split("\n")) {
            if (line.startsWith("    public ")) {
                got.add(line.trim());
            }
        }
        need(got.equals(due), "the public lines are " + got + ", due are " + due);
    }

    private static void nothingElseIsSeen() {
        Class<?> face = AnswerFold.class;
        need(Modifier.isPublic(face.getModifiers()) && Modifier.isFinal(face.getModifiers()), "public and final");
        need(face.getPackageName().isEmpty(), "no package");
        need(face.getDeclaredConstructors().length == 1, "one constructor");
        Set<String> publicNames = new HashSet<>();
        for (Method m : face.getDeclaredMethods()) {
            if (Modifier.isPublic(m.getModifiers())) {
                publicNames.add(m.getName());
            } else {
                need(Modifier.isPrivate(m.getModifiers()), m + " is seen");
            }
        }
        need(publicNames.size() == 29, "29 methods, not " + publicNames.size());
        for (Field f : face.getDeclaredFields()) {
            need(Modifier.isPrivate(f.getModifiers()), f + " is seen");
        }
        for (Class<?> c : allClasses()) {
            for (Method m : c.getDeclaredMethods()) {
                boolean isPublic = c == face && Modifier.isPublic(m.getModifiers());
                need(isPublic || !publicNames.contains(m.getName()), m + " bears the name of a public one");
            }
        }
    }

    private static List<Class<?>> allClasses() {
        List<Class<?>> all = new java.util.ArrayList<>(Arrays.asList(AnswerFold.class.getDeclaredClasses()));
        all.add(AnswerFold.class);
        return all;
    }

    private static void classesInside() {
        need(allClasses().size() <= 12, "at most twelve classes");
        for (Class<?> c : allClasses()) {
            int fields = 0;
            for (Field f : c.getDeclaredFields()) {
                fields += Modifier.isStatic(f.getModifiers()) ? 0 : 1;
            }
            need(fields <= 20, c + " has " + fields + " fields");
            need(c == AnswerFold.class || Modifier.isStatic(c.getModifiers()), c + " is static");
            for (Method m : c.getDeclaredMethods()) {
                need(m.getParameterCount() <= 7, m + " takes more than seven parameters");
                boolean isOwn = !Set.of("equals", "hashCode", "toString").contains(m.getName());
                need(isOwn, m + " is not to be written");
            }
            for (Constructor<?> k : c.getDeclaredConstructors()) {
                need(k.getParameterCount() <= 7, k + " takes more than seven parameters");
            }
        }
    }

    private static void staticFields() {
        for (Class<?> c : allClasses()) {
            for (Field f : c.getDeclaredFields()) {
                if (Modifier.isStatic(f.getModifiers())) {
                    need(Modifier.isFinal(f.getModifiers()) && f.getType() == int.class, f + " is no constant");
                }
            }
        }
    }

    private static void words(String source) {
        String code = source.replaceAll("(?s)/\\*.*?\\*/", "").replaceAll("//[^\n]*", "").replaceAll("\"[^\"\n]*\"", "T");
        String[] banned = {"try", "catch", "finally", "synchronized", "assert", "instanceof", "record", "protected",
            "System", "Thread", "Random", "Object", "Exact", "yield", "volatile", "native", "while", "do"};
        for (String word : banned) {
            need(!Pattern.compile("\\b" + word + "\\b").matcher(code).find(), "the word " + word);
        }
        need(!code.contains("->") && !code.contains("::"), "a lambda");
        Matcher thrown = Pattern.compile("throw new (\\w+)\\(T\\);").matcher(code);
        int found = 0;
        while (thrown.find()) {
            found++;
        }
        need(found == code.split("\\bthrow\\b").length - 1, "a throw of another form");
        need(source.chars().allMatch(c -> c < 127), "a sign that is not plain");
        need(code.split("import ").length == 2, "one import");
        // rule 10: a switch is on numbers or enums
        need(!Pattern.compile("case\\s+'").matcher(code).find(), "a switch on signs");
    }

    /** All loops are for loops whose condition has a bound; no method is longer than some sixty lines. */
    private static void loopsAreCounted(String source) {
        String[] lines = source.split("\n");
        int start = -1;
        for (int i = 0; i < lines.length; i++) {
            String line = lines[i];
            if (line.contains("for (")) {
                need(line.matches(".*for \\(int \\w+ = .*; .*[<>].*; \\w+(\\+\\+|--)\\).*"), "a loop in line " + (i + 1));
            }
            if (line.matches("( {4}| {8})\\w.*\\(.*\\{")) {
                start = i;
            } else if (line.matches("( {4}| {8})}") && start >= 0) {
                need(i - start <= 60, "a long method in line " + (start + 1));
                start = -1;
            }
        }
    }
}
