import java.lang.reflect.Constructor;
import java.lang.reflect.Field;
import java.lang.reflect.Method;
import java.lang.reflect.Modifier;
import java.nio.file.Files;
import java.nio.file.Path;
import java.util.Set;
import java.util.TreeSet;
import java.util.regex.Matcher;
import java.util.regex.Pattern;

/** What can be seen of ../shared/LANGUAGE.md from outside: the face, words that it rules out, and the room of a run. */
public final class LanguageTest {
    private static final String FORBIDDEN = "\\b(throw|throws|try|catch|finally|synchronized|assert|package|volatile|native|"
            + "System\\.(?!arraycopy)\\w+|Thread|Random|\\w+Exact|import (?!java\\.util\\.(ArrayList|List|Arrays|Iterator);)"
            + "|(boolean|int|String) (equals|hashCode|toString)\\()|::|(?<!\\bcase [^;]{0,80}|\\bdefault ?)->";

    public static void main(String[] args) throws Exception {
        face();
        nestedClasses();
        words();
        roomOfARun();
        Check.finish();
    }

    private static void face() {
        Check.due("public final", SweetWraps.class.getModifiers(), Modifier.PUBLIC | Modifier.FINAL);
        Set<String> open = new TreeSet<>();
        Set<String> hidden = new TreeSet<>();
        for (Method method : SweetWraps.class.getDeclaredMethods()) {
            if (Modifier.isPublic(method.getModifiers())) open.add(method.getName());
            else hidden.add(method.getName());
            if (!Modifier.isPublic(method.getModifiers())) {
                Check.due(method + " is private", Modifier.isPrivate(method.getModifiers()) ? 1 : 0, 1);
            }
        }
        Check.due("public methods", open.size(), 26);
        hidden.retainAll(open);
        Check.due("private methods named as public ones " + hidden, hidden.size(), 0);
        int constants = 0;
        for (Field field : SweetWraps.class.getDeclaredFields()) {
            boolean isPublic = Modifier.isPublic(field.getModifiers());
            if (isPublic) constants++;
            Check.due(field + " is public or private", isPublic || Modifier.isPrivate(field.getModifiers()) ? 1 : 0, 1);
            if (Modifier.isStatic(field.getModifiers())) {
                Check.due(field + " is final", Modifier.isFinal(field.getModifiers()) ? 1 : 0, 1);
            }
        }
        Check.due("constants", constants, 10);
        Constructor<?>[] made = SweetWraps.class.getDeclaredConstructors();
        Check.due("constructors", made.length, 1);
        Check.due("error codes", SweetWraps.NO_SUCH + 10 * SweetWraps.BAD_VALUE + 100 * SweetWraps.BAD_TEXT
                + 1000 * SweetWraps.TOO_MANY + 10000 * SweetWraps.NOT_POSSIBLE + 100000 * SweetWraps.NONE, -654321);
        Check.due("settings", SweetWraps.SPEED + 10 * SweetWraps.TEAR + 100 * SweetWraps.ROOM + 1000 * SweetWraps.TWIST,
                3210);
    }

    private static void nestedClasses() {
        Class<?>[] nested = SweetWraps.class.getDeclaredClasses();
        Check.due("at most twelve classes", nested.length < 12 ? 1 : 0, 1);
        for (Class<?> type : nested) {
            Check.due(type + " is static", Modifier.isStatic(type.getModifiers()) ? 1 : 0, 1);
            Check.due(type + " is not public", Modifier.isPublic(type.getModifiers()) ? 1 : 0, 0);
            Check.due(type + " has few fields", type.getDeclaredFields().length <= 20 ? 1 : 0, 1);
            for (Method method : type.getDeclaredMethods()) {
                Check.due(method + " has few parameters", method.getParameterCount() <= 7 ? 1 : 0, 1);
            }
        }
    }

    private static void words() throws Exception {
        String source = Files.readString(Path.of("src/main/java/SweetWraps.java"));
        String code = source.replaceAll("(?s)/\\*.*?\\*/", "").replaceAll("//.*", "");
        Matcher matcher = Pattern.compile(FORBIDDEN).matcher(code);
        while (matcher.find()) Check.due("uses of \"" + matcher.group() + "\"", 1, 0);
        for (int i = 0; i < code.length(); i++) {
            if (code.charAt(i) > 126) Check.due("a sign of number " + (int) code.charAt(i), 1, 0);
        }
    }

    /** A run has room for 7.3 million fields and elements, which are bytes at least. */
    private static void roomOfARun() {
        com.sun.management.ThreadMXBean bean =
                (com.sun.management.ThreadMXBean) java.lang.management.ManagementFactory.getThreadMXBean();
        long before = bean.getCurrentThreadAllocatedBytes();
        SweetWraps x = new SweetWraps();
        for (int round = 0; round < 4; round++) useAll(x);
        long made = bean.getCurrentThreadAllocatedBytes() - before;
        Check.due("bytes made by a run, " + made, made < 7_300_000 ? 1 : 0, 1);
    }

    private static void useAll(SweetWraps x) {
        x.save(0);
        x.set(SweetWraps.SPEED, 4);
        x.heap(0, 1, 9);
        x.foil(0, 90);
        x.tin();
        x.run(1);
        x.apart(1, 2);
        for (int i = 0; i < 18; i++) x.of(0, i);
        for (int i = 0; i < 18; i++) x.count(i);
        for (int i = 0; i < 18; i++) x.ofTin(0, i);
        x.ofHeap(0, 0, 0);
        x.inTin(0, 1);
        x.flavour(1, 1);
        x.byRoom(0);
        x.byCount(0);
        x.stands(0, 0);
        x.bestSpeed(20, 0);
        x.ifApart(1, 2, 20);
        x.tinsFor();
        x.ship(0);
        x.put(0x743B74);
        x.fault();
        x.carryOut();
        x.put(0x743B);
        x.fault();
        x.wipe();
        x.undo();
        x.save(1);
        x.restore(0);
    }
}
