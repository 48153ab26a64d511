import java.io.IOException;
import java.lang.reflect.Array;
import java.lang.reflect.Field;
import java.lang.reflect.Member;
import java.lang.reflect.Method;
import java.lang.reflect.Modifier;
import java.nio.file.Files;
import java.nio.file.Path;
import java.util.ArrayList;
import java.util.IdentityHashMap;
import java.util.List;
import java.util.Map;
import java.util.Set;
import java.util.TreeSet;
import java.util.regex.Matcher;
import java.util.regex.Pattern;

/** What LANGUAGE.md asks of the class and can be seen from outside: its face, its words, and its room. */
public final class LanguageTest {
    private static final Path SOURCE = Path.of("src/main/java/IceHouse.java");
    private static final Path DOCUMENT = Path.of("../shared/DOC.md");

    public static void main(String[] args) throws IOException, IllegalAccessException {
        theFace();
        theClassesInside();
        theWords();
        theMethodsAreShort();
        nothingIsMadeByACall();
        theRoom();
        Due.end();
    }

    private static void theFace() throws IOException {
        Set<String> asked = new TreeSet<>();
        Matcher face = Pattern.compile("(?m)^    public int (\\w+)\\(([^)]*)\\);").matcher(Files.readString(DOCUMENT));
        while (face.find()) {
            asked.add(face.group(1) + " " + (face.group(2).isEmpty() ? 0 : face.group(2).split(",").length));
        }
        Set<String> there = new TreeSet<>();
        for (Method m : IceHouse.class.getDeclaredMethods()) {
            if (!Modifier.isPrivate(m.getModifiers())) {
                there.add(m.getName() + " " + m.getParameterCount());
                Due.yes("public: " + m, Modifier.isPublic(m.getModifiers()) && m.getReturnType() == int.class);
            }
        }
        Due.is("the methods of the face", 37 - 1, asked.size());
        Due.yes("the face is the document's", asked.equals(there));
        Due.yes("public and final", Modifier.isPublic(IceHouse.class.getModifiers())
                && Modifier.isFinal(IceHouse.class.getModifiers()));
        Due.is("constructors", 1, IceHouse.class.getConstructors().length);
        for (Field f : IceHouse.class.getDeclaredFields()) {
            Due.yes("private: " + f, Modifier.isPrivate(f.getModifiers()));
        }
    }

    private static List<Class<?>> classes() {
        List<Class<?>> all = new ArrayList<>(List.of(IceHouse.class.getDeclaredClasses()));
        all.add(IceHouse.class);
        return all;
    }

    private static void theClassesInside() {
        Set<String> names = new TreeSet<>();
        for (Method m : IceHouse.class.getMethods()) {
            names.add(m.getName());
        }
        Due.yes("twelve classes at most", classes().size() <= 12);
        for (Class<?> c : classes()) {
            Due.yes("static: " + c, c == IceHouse.class || Modifier.isStatic(c.getModifiers()));
            int fields = 0;
            for (Field f : c.getDeclaredFields()) {
                fields += isStatic(f) ? 0 : 1;
                Due.yes("final if static: " + f, !isStatic(f) || Modifier.isFinal(f.getModifiers()));
            }
            Due.yes("twenty fields at most: " + c, fields <= 20);
            for (Method m : c.getDeclaredMethods()) {
                boolean ofTheFace = c == IceHouse.class && Modifier.isPublic(m.getModifiers());
                Due.yes("a name of its own: " + m, ofTheFace || !names.contains(m.getName()));
                Due.yes("seven parameters at most: " + m, m.getParameterCount() <= 7);
            }
        }
    }

    private static boolean isStatic(Member member) {
        return Modifier.isStatic(member.getModifiers());
    }

    private static String code() throws IOException {
        return Files.readString(SOURCE).replaceAll("(?s)/\\*.*?\\*/", "").replaceAll("//.*", "");
    }

    private static void theWords() throws IOException {
        String code = code();
        String[] ruledOut = {"\\bthrows?\\b", "\\btry\\b", "\\bcatch\\b", "\\bsynchronized\\b", "\\bassert\\b",
            "->", "::", "Exact\\b", "\\bObject\\b", "\\bpackage\\b", "\\bstatic \\{", "\"", "\\bprotected\\b",
            "\\bhashCode\\b", "\\bequals\\b", "\\btoString\\b", "\\bThread\\b", "\\bnanoTime\\b", "\\bdouble\\b"};
        for (String word : ruledOut) {
            Due.yes("without " + word, !Pattern.compile(word).matcher(code).find());
        }
        Matcher imports = Pattern.compile("import (.*);").matcher(code);
        while (imports.find()) {
            Due.yes("import " + imports.group(1), imports.group(1).equals("java.util.Arrays"));
        }
        Due.yes("plain signs", code.chars().allMatch(c -> c < 128));
    }

    private static void theMethodsAreShort() throws IOException {
        String[] lines = Files.readString(SOURCE).split("\n");
        Pattern head = Pattern.compile("^( {4}| {8})[a-z].*\\) \\{$");
        for (int i = 0; i < lines.length; i++) {
            Matcher m = head.matcher(lines[i]);
            if (m.matches()) {
                int end = i;
                while (end < lines.length && !lines[end].equals(m.group(1) + "}")) {
                    end++;
                }
                Due.yes("short: " + lines[i].trim(), end - i < 60);
            }
        }
    }

    /** All calls share one room, so rows are made with the object and never by a call. */
    private static void nothingIsMadeByACall() throws IOException {
        for (String line : code().split("\n")) {
            if (line.contains("new ")) {
                Due.yes("made with the object: " + line.trim(), line.matches("\\s+(private )?final .* = new .*;"));
            }
        }
    }

    private static void theRoom() throws IllegalAccessException {
        int[] size = {0, 0};
        IceHouse x = Due.frozen(40, 40);
        weigh(x, new IdentityHashMap<>(), size);
        Due.yes("objects: " + size[0], size[0] < 100);
        Due.yes("fields and elements: " + size[1], size[1] < 4000);
        System.out.println("one object: " + size[0] + " objects and arrays, " + size[1] + " fields and elements");
    }

    private static void weigh(Object o, Map<Object, Boolean> seen, int[] size) throws IllegalAccessException {
        if (o == null || seen.put(o, true) != null) {
            return;
        }
        size[0]++;
        if (o.getClass().isArray()) {
            size[1] += Array.getLength(o);
            for (int i = 0; i < Array.getLength(o) && !o.getClass().getComponentType().isPrimitive(); i++) {
                weigh(Array.get(o, i), seen, size);
            }
            return;
        }
        for (Field f : o.getClass().getDeclaredFields()) {
            if (!isStatic(f)) {
                size[1]++;
                f.setAccessible(true);
                if (!f.getType().isPrimitive()) {
                    weigh(f.get(o), seen, size);
                }
            }
        }
    }
}
