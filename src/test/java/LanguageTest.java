import java.io.IOException;
import java.lang.reflect.Constructor;
import java.lang.reflect.Method;
import java.lang.reflect.Modifier;
import java.nio.file.Files;
import java.nio.file.Path;
import java.util.HashSet;
import java.util.Set;
import java.util.regex.Matcher;
import java.util.regex.Pattern;

/** What of LANGUAGE.md can be read off the source's text and the class's own members. */
public final class LanguageTest {
    private static final Check c = new Check("LanguageTest");

    public static void main(String[] args) throws IOException {
        String source = Files.readString(Path.of("src/main/java/WhoMentionsIt.java"));
        String code = source.replaceAll("(?s)/\\*.*?\\*/", "").replaceAll("//[^\n]*", "");
        words(code);
        library(code);
        members();
        methods(code);
        c.end();
    }

    private static void words(String code) {
        String[] banned = {"\\bthrow\\b", "\\bthrows\\b", "\\btry\\b", "\\bcatch\\b", "\\bsynchronized\\b", "\\bassert\\b",
            "->", "::", "\\bimport\\b", "\\bpackage\\b", "static \\{", "\\bprotected\\b", "Exact\\b", "\\bhashCode\\b",
            "\\btoString\\b", "\\bObject\\b", "\\bvar\\b", "\\bwhile\\b", "System\\.(?!arraycopy)", "[^\\x00-\\x7f]"};
        for (String b : banned) {
            Matcher m = Pattern.compile(b).matcher(code);
            c.due("rule against " + b, m.find() ? 1 : 0, 0);
        }
        Matcher m = Pattern.compile("\\bclass\\b").matcher(code);
        int classes = 0;
        while (m.find()) {
            classes++;
        }
        c.due("twelve classes at most", classes <= 12 ? 0 : classes, 0);
    }

    /** Rule 4 lists functions of the library; no other name of it may stand in the class. */
    private static void library(String code) {
        Matcher m = Pattern.compile("\\b(Integer|Long|Short|Byte|Character|Boolean|Double|Float|Math|StrictMath|Arrays"
                + "|System|String|StringBuilder|List|ArrayList|Objects|Collections|Thread|Runtime)\\b[\\w.]*").matcher(code);
        Set<String> listed = Set.of("Math.max", "Math.min", "System.arraycopy");
        while (m.find()) {
            c.due("rule 4 lists " + m.group(), listed.contains(m.group()) ? 1 : 0, 1);
        }
    }

    private static void members() {
        Class<?> face = WhoMentionsIt.class;
        c.due("public and final", face.getModifiers() & (Modifier.PUBLIC | Modifier.FINAL), Modifier.PUBLIC | Modifier.FINAL);
        Set<String> open = new HashSet<>();
        for (Method m : face.getDeclaredMethods()) {
            boolean isPublic = Modifier.isPublic(m.getModifiers());
            c.due(m + " public or private", isPublic || Modifier.isPrivate(m.getModifiers()) || m.isSynthetic() ? 1 : 0, 1);
            if (isPublic) {
                open.add(m.getName());
            }
        }
        c.due("methods of the face", open.size(), 43);
        for (Constructor<?> k : face.getDeclaredConstructors()) {
            c.due("constructor", Modifier.isPublic(k.getModifiers()) ? k.getParameterCount() : -1, 0);
        }
        checkPrivateNames(face, open);
        for (Class<?> inner : face.getDeclaredClasses()) {
            c.due(inner + " static", Modifier.isStatic(inner.getModifiers()) ? 1 : 0, 1);
            checkPrivateNames(inner, open);
        }
    }

    private static void checkPrivateNames(Class<?> of, Set<String> open) {
        int fields = 0;
        for (Method m : of.getDeclaredMethods()) {
            boolean again = open.contains(m.getName()) && !Modifier.isPublic(m.getModifiers());
            c.due(m + " bears a public name", again ? 1 : 0, 0);
            c.due(m + " parameters", m.getParameterCount() <= 7 ? 1 : 0, 1);
        }
        for (java.lang.reflect.Field f : of.getDeclaredFields()) {
            fields += Modifier.isStatic(f.getModifiers()) ? 0 : 1;
            boolean loose = Modifier.isStatic(f.getModifiers()) && !Modifier.isFinal(f.getModifiers());
            c.due(f + " static and not final", loose ? 1 : 0, 0);
        }
        c.due(of + " fields", fields <= 20 ? 1 : 0, 1);
    }

    /** Methods stay short: from a head four or eight blanks in to the brace that closes it. */
    private static void methods(String code) {
        String[] lines = code.split("\n");
        for (int i = 0; i < lines.length; i++) {
            String indent = lines[i].replaceAll("\\S.*", "");
            boolean head = (indent.length() == 4 || indent.length() == 8)
                    && lines[i].endsWith(") {") && !lines[i].matches("\\s*(if|for|switch|\\}).*");
            if (!head) {
                continue;
            }
            int end = i;
            while (!lines[end].equals(indent + "}")) {
                end++;
            }
            c.due("long method " + lines[i].trim(), end - i <= 60 ? 0 : end - i, 0);
        }
    }
}
