import java.io.IOException;
import java.lang.reflect.Constructor;
import java.lang.reflect.Field;
import java.lang.reflect.Method;
import java.lang.reflect.Modifier;
import java.nio.file.Files;
import java.nio.file.Path;
import java.util.HashSet;
import java.util.Set;
import java.util.TreeSet;
import java.util.regex.Matcher;
import java.util.regex.Pattern;

/** What of LANGUAGE.md can be seen from outside or by words: the face, banned words, sizes. Run from the project's root. */
public final class LanguageTest {
    private static final String[] FACE = {"city", "now", "place", "placeOf", "dig", "strike", "ground", "first", "means", "meaning", "feed", "rules",
        "number", "find", "may", "sure", "nowhere", "barred", "thing", "gone", "like", "join", "joined", "lost", "wall", "draw", "copy", "stood", "ash",
        "above", "hour", "height", "hollow", "way", "sign", "who", "work", "best", "saves", "beside", "check", "count"};
    private static final String[] BANNED = {"throw", "throws", "try", "catch", "synchronized", "assert", "protected", "native", "volatile", "transient",
        "Object", "System.out", "hashCode", "toString", "Random", "nanoTime", "currentTimeMillis", "Exact", "->", "::", "var", "yield", "Math.random"};

    public static void main(String[] args) throws IOException {
        face();
        inside();
        words();
        Due.end();
    }

    private static void face() {
        Set<String> face = new TreeSet<>();
        for (Method m : AshCity.class.getDeclaredMethods()) {
            if (!Modifier.isPrivate(m.getModifiers())) {
                Due.yes(m + " is public", Modifier.isPublic(m.getModifiers()));
                Due.yes(m + " is no static one", !Modifier.isStatic(m.getModifiers()));
                Due.yes(m + " is told once", face.add(m.getName()));
            }
        }
        Due.yes("the face is the document's: " + face, face.equals(new TreeSet<>(Set.of(FACE))));
        for (Constructor<?> c : AshCity.class.getDeclaredConstructors()) {
            Due.yes(c + " is public and without arguments", Modifier.isPublic(c.getModifiers()) && c.getParameterCount() == 0);
        }
        for (Field f : AshCity.class.getDeclaredFields()) {
            Due.yes(f + " is private or NONE", Modifier.isPrivate(f.getModifiers()) || f.getName().equals("NONE"));
        }
        Due.is("NONE", AshCity.NONE, -1);
        Due.yes("AshCity is public and final", Modifier.isPublic(AshCity.class.getModifiers()) && Modifier.isFinal(AshCity.class.getModifiers()));
    }

    private static void inside() {
        Set<String> face = new HashSet<>(Set.of(FACE));
        Class<?>[] classes = AshCity.class.getDeclaredClasses();
        Due.yes("some twelve classes", classes.length < 12);
        for (Class<?> c : classes) {
            Due.yes(c + " is static and not public", Modifier.isStatic(c.getModifiers()) && !Modifier.isPublic(c.getModifiers()));
            int fields = 0;
            for (Field f : c.getDeclaredFields()) {
                fields += Modifier.isStatic(f.getModifiers()) ? 0 : 1;
                Due.yes(f + ": static ones are final", !Modifier.isStatic(f.getModifiers()) || Modifier.isFinal(f.getModifiers()));
            }
            Due.yes(c + " has some twenty fields", fields <= 20);
            for (Method m : c.getDeclaredMethods()) {
                Due.no(m + " bears a public one's name", face.contains(m.getName()));
                Due.yes(m + " has seven parameters at most", m.getParameterCount() <= 7);
            }
        }
    }

    private static void words() throws IOException {
        String source = Files.readString(Path.of("src/main/java/AshCity.java"));
        String code = source.replaceAll("(?s)/\\*.*?\\*/", "").replaceAll("//[^\n]*", "").replaceAll("'.'", "' '");
        for (String word : BANNED) {
            String pattern = Character.isLetter(word.charAt(0)) ? "\\b" + Pattern.quote(word) + "\\b" : Pattern.quote(word);
            Due.no("the word " + word, Pattern.compile(pattern).matcher(code).find());
        }
        Matcher imports = Pattern.compile("import ([^;]*);").matcher(code);
        while (imports.find()) {
            Due.yes("import " + imports.group(1), Set.of("java.util.ArrayList", "java.util.Arrays").contains(imports.group(1)));
        }
        Due.yes("signs 1 to 127 alone", source.chars().allMatch(c -> c < 128));
        int lines = 0;
        for (String line : source.split("\n")) {
            lines = line.matches("    (    )?[a-z].*\\{") ? 0 : lines + 1;
            Due.yes("short methods, and lines: " + line, lines <= 60 && line.length() <= 130);
        }
    }
}
