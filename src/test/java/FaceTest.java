import java.io.IOException;
import java.lang.reflect.Constructor;
import java.lang.reflect.Executable;
import java.lang.reflect.Field;
import java.lang.reflect.Method;
import java.lang.reflect.Modifier;
import java.nio.file.Files;
import java.nio.file.Path;
import java.util.HashSet;
import java.util.Set;
import java.util.regex.Matcher;
import java.util.regex.Pattern;

/**
 * All promises: the public face is word for word that of the document, and there is no other; what can be seen of the
 * rules of the language from outside.
 */
public final class FaceTest {
    private static final Class<?> HOUSE = PictureCodingHouse.class;

    // the document's face, line by line
    private static final String FACE = """
        public final class PictureCodingHouse {
        public static final int NONE = -1;
        public PictureCodingHouse();
        public void picture(int k, int width, int height) throws IndexOutOfBoundsException, IllegalArgumentException;
        public int put(int k, int x, int y, int n, int v) throws IndexOutOfBoundsException, IllegalStateException, IllegalArgumentException;
        public int shape(int k, int x, int y, int n, boolean inside) throws IndexOutOfBoundsException, IllegalStateException, IllegalArgumentException;
        public int at(int k, int x, int y) throws IndexOutOfBoundsException, IllegalStateException;
        public boolean isInside(int k, int x, int y) throws IndexOutOfBoundsException, IllegalStateException;
        public void copy(int k, int from) throws IndexOutOfBoundsException;
        public void sheet(int s, int width, int height) throws IndexOutOfBoundsException, IllegalArgumentException;
        public int ink(int s, int x, int y, int n, boolean dark) throws IndexOutOfBoundsException, IllegalStateException, IllegalArgumentException;
        public boolean isDark(int s, int x, int y) throws IndexOutOfBoundsException, IllegalStateException;
        public int apart(int s, int other) throws IndexOutOfBoundsException, IllegalStateException;
        public int byteAt(int f, int i) throws IndexOutOfBoundsException;
        public int feed(int f, int b) throws IndexOutOfBoundsException, IllegalArgumentException, UnsupportedOperationException;
        public int alter(int f, int i, int b) throws IndexOutOfBoundsException, IllegalArgumentException;
        public int cut(int f, int n) throws IndexOutOfBoundsException, IllegalArgumentException;
        public int join(int f, int from, int n, int to) throws IndexOutOfBoundsException, IllegalArgumentException, UnsupportedOperationException;
        public int lines(int k, int n, int turn, int near, int restart, int f) throws IndexOutOfBoundsException, IllegalStateException, IllegalArgumentException, UnsupportedOperationException;
        public int unline(int f, int k) throws IndexOutOfBoundsException, UnsupportedOperationException;
        public int waves(int k, int bits, int f) throws IndexOutOfBoundsException, IllegalStateException, IllegalArgumentException, UnsupportedOperationException;
        public int unwave(int f, int bits, int k) throws IndexOutOfBoundsException, IllegalArgumentException, UnsupportedOperationException;
        public int wave(int k, int x, int y) throws IndexOutOfBoundsException, IllegalStateException, UnsupportedOperationException;
        public int chunks(int k, int f) throws IndexOutOfBoundsException, IllegalStateException, UnsupportedOperationException;
        public int unchunk(int f, int k) throws IndexOutOfBoundsException, UnsupportedOperationException;
        public int pack(int f, int effort, int to) throws IndexOutOfBoundsException, IllegalStateException, IllegalArgumentException, UnsupportedOperationException;
        public int unpack(int f, int to) throws IndexOutOfBoundsException, UnsupportedOperationException;
        public int halftone(int k, int side, int s) throws IndexOutOfBoundsException, IllegalStateException, IllegalArgumentException;
        public int shade(int s, int side, int k) throws IndexOutOfBoundsException, IllegalStateException, IllegalArgumentException;
        public int greys(int k, int side, int f) throws IndexOutOfBoundsException, IllegalStateException, IllegalArgumentException, UnsupportedOperationException;
        public int ungrey(int f, int k) throws IndexOutOfBoundsException, UnsupportedOperationException;
        public int parts(int s, int what) throws IndexOutOfBoundsException, IllegalStateException, IllegalArgumentException;
        public int text(int s, int naming, int tries, int f) throws IndexOutOfBoundsException, IllegalStateException, IllegalArgumentException, UnsupportedOperationException;
        public int untext(int f, int s) throws IndexOutOfBoundsException, UnsupportedOperationException;
        public int book(int s, int n, int order, int stripes, int f) throws IndexOutOfBoundsException, IllegalStateException, IllegalArgumentException, UnsupportedOperationException;
        public int unbook(int f, int order, int s) throws IndexOutOfBoundsException, IllegalArgumentException, UnsupportedOperationException;
        public int fault(int what) throws IllegalArgumentException;
        public int place(int k, int x, int y) throws IndexOutOfBoundsException, IllegalStateException, IllegalArgumentException, UnsupportedOperationException;
        public int turn(int way) throws IllegalArgumentException;
        public int crop(int x, int y, int w, int h) throws IllegalArgumentException;
        public int near(int side) throws IndexOutOfBoundsException, IllegalStateException;
        public int swap();
        public int attach(int side) throws IndexOutOfBoundsException, IllegalStateException, UnsupportedOperationException;
        public int tile(int t, int what) throws IndexOutOfBoundsException, IllegalArgumentException;
        public int shown(int x, int y) throws IndexOutOfBoundsException;
        public int render(int x, int y, int w, int h, int k) throws IndexOutOfBoundsException, IllegalArgumentException;
        public int album(int f) throws IndexOutOfBoundsException, UnsupportedOperationException;
        public int need(int share, int s, int other, int m) throws IndexOutOfBoundsException, IllegalArgumentException, UnsupportedOperationException;
        public int free(int share) throws IndexOutOfBoundsException;
        public int failing(int worker, int share, int s, int times) throws IndexOutOfBoundsException, IllegalArgumentException, UnsupportedOperationException;
        public int stop(int share) throws IndexOutOfBoundsException;
        public int batch(int workers, long seed, int form, int number) throws IllegalArgumentException, UnsupportedOperationException;
        public long value(int share) throws IndexOutOfBoundsException, IllegalStateException;
        public int finished(int i) throws IndexOutOfBoundsException;
        public int waited(int share, int other) throws IndexOutOfBoundsException;
        public int size(int sort, int k, int what) throws IndexOutOfBoundsException, IllegalArgumentException;
        public int told(int what) throws IllegalArgumentException;
        public void clear();
        """;

    // the first call behind each comment that the interface has
    private static final String[][] SECTIONS = {
        {"picture", "---- pictures"},
        {"sheet", "---- sheets"},
        {"byteAt", "---- files"},
        {"lines", "---- lines, waves, chunks, packed files"},
        {"halftone", "---- halftones, texts, books"},
        {"place", "---- albums"},
        {"need", "---- batches"},
        {"size", "---- what is told"},
    };

    public static void main(String[] args) throws IOException {
        String source = Files.readString(Path.of("src/main/java/PictureCodingHouse.java"));
        Set<String> names = faceOf(source);
        onlyTheFace(names);
        sections(source);
        inside(names);
        words(source);
        Checks.end();
    }

    private static String inOneLine(String text) {
        return text.replaceAll("\\s+", " ");
    }

    /** Each line of the document's face stands in the class: the names of its methods. */
    private static Set<String> faceOf(String source) {
        String written = inOneLine(source);
        Set<String> names = new HashSet<>();
        for (String line : FACE.split("\n")) {
            boolean isCall = line.endsWith(");") || line.contains(") throws ");
            String wanted = isCall ? line.substring(0, line.length() - 1) + " {" : line;
            Checks.holds("the class has: " + line, written.contains(wanted));
            if (isCall) {
                String before = line.substring(0, line.indexOf('('));
                names.add(before.substring(before.lastIndexOf(' ') + 1));
            }
        }
        names.remove("PictureCodingHouse");
        return names;
    }

    private static void onlyTheFace(Set<String> names) {
        Checks.holds("the class is public and final",
                Modifier.isPublic(HOUSE.getModifiers()) && Modifier.isFinal(HOUSE.getModifiers()));
        Checks.holds("it stands in no package", HOUSE.getPackageName().isEmpty());
        Checks.same("NONE", -1, PictureCodingHouse.NONE);
        int shown = 0;
        for (Method method : HOUSE.getDeclaredMethods()) {
            if (Modifier.isPrivate(method.getModifiers())) {
                Checks.holds("the private " + method.getName() + " bears no public name", !names.contains(method.getName()));
            } else {
                shown++;
                Checks.holds(method + " is of the face",
                        names.contains(method.getName()) && Modifier.isPublic(method.getModifiers()));
            }
        }
        Checks.same("methods that are not private", names.size(), shown);
        Constructor<?>[] constructors = HOUSE.getDeclaredConstructors();
        Checks.same("constructors", 1, constructors.length);
        Checks.holds("the constructor is public and takes nothing",
                Modifier.isPublic(constructors[0].getModifiers()) && constructors[0].getParameterCount() == 0);
        for (Field field : HOUSE.getDeclaredFields()) {
            Checks.holds("the field " + field.getName(),
                    field.getName().equals("NONE") || Modifier.isPrivate(field.getModifiers()));
        }
    }

    /** "Ahead of the calls .. the interface says: ---- ..": that comment stands ahead of the first one of them. */
    private static void sections(String source) {
        for (String[] section : SECTIONS) {
            Checks.holds(section[1] + " is ahead of " + section[0], Pattern.compile("// " + Pattern.quote(section[1])
                    + "\\s+public \\w+ " + section[0] + "\\(").matcher(source).find());
        }
    }

    private static void inside(Set<String> names) {
        Class<?>[] classes = HOUSE.getDeclaredClasses();
        Checks.holds("classes inside: " + classes.length, classes.length <= 12);
        checkClass(HOUSE, names);
        for (Class<?> one : classes) {
            Checks.holds(one + " is static and not public",
                    Modifier.isStatic(one.getModifiers()) && !Modifier.isPublic(one.getModifiers()));
            checkClass(one, names);
        }
    }

    private static void checkClass(Class<?> one, Set<String> names) {
        int fields = 0;
        for (Field field : one.getDeclaredFields()) {
            if (Modifier.isStatic(field.getModifiers())) {
                Checks.holds(field + " is final", Modifier.isFinal(field.getModifiers()));
            } else {
                fields++;
            }
        }
        Checks.holds(one + " has " + fields + " fields", fields <= 22);
        for (Executable method : one.getDeclaredMethods()) {
            Checks.holds(method + " takes at most seven", method.getParameterCount() <= 7);
            Checks.holds(method + " bears no name of the face", one == HOUSE || !names.contains(method.getName()));
        }
    }

    /** Only one exception is caught, one that the machine never throws; nothing is taken from elsewhere. */
    private static void words(String source) {
        Matcher caught = Pattern.compile("catch \\(([^)]*)\\)").matcher(source);
        while (caught.find()) {
            Checks.holds("caught: " + caught.group(1), caught.group(1).startsWith("NoSuchElementException "));
        }
        Matcher taken = Pattern.compile("(?m)^import (.*);").matcher(source);
        while (taken.find()) {
            Checks.holds("import " + taken.group(1), taken.group(1).equals("java.util.NoSuchElementException"));
        }
        for (String word : new String[] {"->", "::", "finally", "synchronized", "assert ", "instanceof", "System.",
            "Thread", "Random", "java.io", "java.nio", "java.time", "Exact("}) {
            Checks.holds("no " + word, !source.contains(word));
        }
    }
}
