import java.io.IOException;
import java.lang.reflect.Constructor;
import java.lang.reflect.Field;
import java.lang.reflect.Method;
import java.lang.reflect.Modifier;
import java.nio.file.Files;
import java.nio.file.Path;
import java.util.Arrays;
import java.util.HashSet;
import java.util.List;
import java.util.Set;
import java.util.TreeSet;
import java.util.regex.Matcher;
import java.util.regex.Pattern;

/** The class has the document's face and no other, and keeps to what can be looked up of the language's rules. */
public final class FaceTest {
    private static final Path SOURCE = Path.of("src/main/java/ClockOfSwallows.java");
    private static final Set<String> FACE = Set.of("feed 1", "town 0", "bird 2", "comes 3", "wire 2", "weight 2",
        "sixth 1", "feeds 1", "cat 1", "hawk 0", "rain 0", "back 0", "behind 2", "where 2", "firstWrong 0",
        "allWrong 1", "feeding 2", "closest 1", "highest 1", "happened 0", "tellsMost 1", "mixed 0", "near 1",
        "read 1", "bestWeight 1", "bestWire 2", "chord 1", "plays 1", "trains 4", "whoMoved 1", "watch 1",
        "winter 1", "settled 0", "round 0", "always 2", "catWorth 0", "spread 1", "later 2", "stayed 1", "lured 3",
        "right 2", "worstBird 0", "gather 1", "row 1", "judge 0", "clear 0", "lots 3", "image 0", "restore 0",
        "count 1");
    private static final List<String> WORDS = List.of("throw", "throws", "try", "catch", "synchronized", "assert",
        "System.out", "Random", "Override", "Integer.M", "Long.M", "Object", "instanceof", "Thread", "Exact");
    private static int wrong = 0;

    private static void due(boolean is, String what) {
        if (!is) {
            wrong++;
            System.out.println("not so: " + what);
        }
    }

    private static void face() {
        Class<?> c = ClockOfSwallows.class;
        due(Modifier.isPublic(c.getModifiers()) && Modifier.isFinal(c.getModifiers()), "public and final");
        Constructor<?>[] made = c.getDeclaredConstructors();
        due(made.length == 1 && Modifier.isPublic(made[0].getModifiers()) && made[0].getParameterCount() == 0,
            "one constructor");
        Set<String> open = new TreeSet<>();
        Set<String> names = new HashSet<>();
        for (Method m : c.getDeclaredMethods()) {
            if (Modifier.isPublic(m.getModifiers())) {
                open.add(m.getName() + " " + m.getParameterCount());
                names.add(m.getName());
                due(m.getReturnType() == int.class && Arrays.stream(m.getParameterTypes()).allMatch(t -> t == int.class)
                    && !Modifier.isStatic(m.getModifiers()), m.getName() + " is of ints");
            } else {
                due(Modifier.isPrivate(m.getModifiers()), m.getName() + " is private");
            }
        }
        due(open.equals(new TreeSet<>(FACE)), "the methods are the document's: " + open);
        inside(c, names);
        for (Class<?> in : c.getDeclaredClasses()) {
            due(!Modifier.isPublic(in.getModifiers()) && !Modifier.isProtected(in.getModifiers())
                && Modifier.isStatic(in.getModifiers()), in.getName() + " is inside and static");
            inside(in, names);
        }
        due(c.getDeclaredClasses().length < 12, "some twelve classes");
    }

    private static void inside(Class<?> c, Set<String> open) {
        int own = 0;
        for (Field f : c.getDeclaredFields()) {
            boolean isStatic = Modifier.isStatic(f.getModifiers());
            own += isStatic ? 0 : 1;
            due(!isStatic || Modifier.isFinal(f.getModifiers()), f + " is final");
            due(c != ClockOfSwallows.class || Modifier.isPrivate(f.getModifiers()), f + " is private");
        }
        due(own <= 20, c.getName() + " has some twenty fields: " + own);
        for (Method m : c.getDeclaredMethods()) {
            due(Modifier.isPublic(m.getModifiers()) || !open.contains(m.getName()), m + " bears another name");
            due(m.getParameterCount() <= 7, m + " takes at most seven");
        }
    }

    private static void source() throws IOException {
        String text = Files.readString(SOURCE);
        due(text.chars().allMatch(ch -> ch < 128), "signs are 1 to 127");
        String code = text.replaceAll("(?s)/\\*.*?\\*/", "").replaceAll("//[^\n]*", "");
        for (String word : WORDS) {
            due(!Pattern.compile("\\b" + Pattern.quote(word)).matcher(code).find(), "without " + word);
        }
        for (String sign : List.of("->", "::", "@", "\"", "package ")) {
            due(!code.contains(sign), "without " + sign);
        }
        Matcher imports = Pattern.compile("import ([^;]*);").matcher(code);
        while (imports.find()) {
            due(imports.group(1).equals("java.util.Arrays"), "import " + imports.group(1));
        }
        int begun = 0;
        String[] lines = text.split("\n");
        for (int i = 0; i < lines.length; i++) {
            if (lines[i].matches(" {4}( {4})?(public|private|abstract|final|static|int|void|boolean|[A-Z]).*\\{")) {
                begun = i;
            }
            boolean ends = lines[i].matches(" {4}( {4})?\\}");
            boolean isClass = lines[begun].contains(" class ");
            due(!ends || isClass || i - begun <= 60, "the method at line " + (begun + 1) + " is short");
        }
    }

    public static void main(String[] args) throws IOException {
        face();
        source();
        System.out.println(wrong == 0 ? "the face is the document's" : wrong + " things are not so");
        if (wrong != 0) {
            System.exit(1);
        }
    }
}
