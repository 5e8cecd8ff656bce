import com.sun.management.ThreadMXBean;
import java.io.IOException;
import java.lang.management.ManagementFactory;
import java.lang.reflect.Constructor;
import java.lang.reflect.Field;
import java.lang.reflect.Method;
import java.lang.reflect.Modifier;
import java.nio.file.Files;
import java.nio.file.Path;
import java.util.Set;
import java.util.TreeSet;
import java.util.regex.Matcher;
import java.util.regex.Pattern;

/** What of the language's rules can be seen by a program: the face, words that may not stand, what calls make. */
public final class LanguageTest {
    private static final Path SOURCE = Path.of("src/main/java/PaperHour.java");
    private static final String FACE = "row/3 set/3 copy/5 drop/1 feed/1 town/0 fault/0 give/1 pause/1 value/2 move/2 undo/0"
        + " reader/2 would/2 best/1 soonest/2 copies/2 fits/6 lost/6 drawn/3 image/1 restore/1 kind/1 as/2 ask/2 trace/1"
        + " count/1 status/0";
    private static final Pattern RULED_OUT = Pattern.compile("\\b(throw|throws|try|catch|synchronized|assert|var|record|"
        + "float|double|System\\.(?!arraycopy)\\w+|Thread|Random|Object|String|List|ArrayList)\\b|->|::|Exact\\b");

    private static final Checks C = new Checks();

    private LanguageTest() {
    }

    public static void main(String[] args) throws IOException {
        face();
        classesInside(PaperHour.class.getDeclaredClasses());
        words();
        whatCallsMake();
        C.end();
    }

    private static void face() {
        C.part("face");
        Set<String> wanted = new TreeSet<>(Set.of(FACE.split(" ")));
        Set<String> there = new TreeSet<>();
        for (Method m : PaperHour.class.getDeclaredMethods()) {
            if (!Modifier.isPrivate(m.getModifiers())) {
                there.add(m.getName() + "/" + m.getParameterCount());
                C.holds(m.getName() + " answers an int", m.getReturnType() == int.class);
            } else {
                C.holds(m.getName() + " is no public name", !isPublicName(m.getName()));
            }
            C.holds(m.getName() + " takes at most seven", m.getParameterCount() <= 7);
        }
        C.holds("methods " + there, there.equals(wanted));
        Set<String> fields = new TreeSet<>();
        for (Field f : PaperHour.class.getDeclaredFields()) {
            if (!Modifier.isPrivate(f.getModifiers())) {
                fields.add(f.getName());
            }
        }
        C.holds("constants " + fields, fields.equals(Set.of("NONE", "BAD", "STATE", "FULL")));
        Constructor<?>[] made = PaperHour.class.getConstructors();
        C.holds("one constructor", made.length == 1 && made[0].getParameterCount() == 0);
    }

    private static boolean isPublicName(String name) {
        return (" " + FACE).contains(" " + name + "/");
    }

    private static void classesInside(Class<?>[] inside) {
        C.part("classes inside");
        C.holds("at most eleven", inside.length <= 11);
        for (Class<?> c : inside) {
            int is = c.getModifiers();
            C.holds(c.getName() + " is static, and not seen", Modifier.isStatic(is) && !Modifier.isPublic(is)
                && !Modifier.isProtected(is));
            int fields = 0;
            for (Field f : c.getDeclaredFields()) {
                C.holds(f.getName() + " is not static, or final",
                    !Modifier.isStatic(f.getModifiers()) || Modifier.isFinal(f.getModifiers()));
                fields += Modifier.isStatic(f.getModifiers()) ? 0 : 1;
            }
            C.holds(c.getName() + " has at most twenty fields", fields <= 20);
            for (Method m : c.getDeclaredMethods()) {
                C.holds(m.getName() + " is no public name", !isPublicName(m.getName()));
            }
        }
    }

    private static void words() throws IOException {
        C.part("words");
        String text = Files.readString(SOURCE).replaceAll("(?s)/\\*.*?\\*/", "").replaceAll("//.*", "");
        Matcher m = RULED_OUT.matcher(text);
        while (m.find()) {
            C.holds("'" + m.group() + "' does not stand in it", false);
        }
        C.holds("one library class", text.indexOf("import ") == text.lastIndexOf("import ")
            && text.contains("import java.util.Arrays;"));
        C.holds("nothing above 127", text.chars().allMatch(c -> c < 128));
    }

    /** All calls of a run live in one room: what a call makes would count 512 times. */
    private static void whatCallsMake() {
        C.part("room");
        ThreadMXBean threads = (ThreadMXBean) ManagementFactory.getThreadMXBean();
        long self = Thread.currentThread().getId();
        PaperHour x = new PaperHour();
        allCalls(x);
        threads.getThreadAllocatedBytes(self);
        long ahead = threads.getThreadAllocatedBytes(self);
        for (int round = 0; round < 16; round++) {
            allCalls(x);
        }
        long made = threads.getThreadAllocatedBytes(self) - ahead;
        C.holds("calls make nothing, but " + made + " bytes", made < 4096);
        ahead = threads.getThreadAllocatedBytes(self);
        x = new PaperHour();
        made = threads.getThreadAllocatedBytes(self) - ahead;
        C.holds("an object is small, but has " + made + " bytes", made < 16384);
        C.due("it is one", x.count(0), 0);
    }

    private static void allCalls(PaperHour x) {
        Checks.feedAll(x, "p4,3,20;f5,20,2;s3,18,1;a5,12,1;o9,7,0;h4,9,5;f0,25,3;");
        x.town();
        x.row(0, 0, 4);
        x.row(1, 0, 4);
        x.set(0, 0, 3);
        x.copy(0, 0, 1, 1, 3);
        x.drop(1);
        x.pause(1);
        x.value(1, 5);
        x.move(1, 5);
        x.give(1);
        x.undo();
        x.best(0);
        x.soonest(63, -1);
        x.copies(3, -1);
        x.fits(0, 0, 0, 1, 7, 2);
        x.lost(0, 0, 1, 3, 7, 1);
        x.drawn(60, 9, 0);
        x.image(0);
        x.restore(0);
        x.as(0, 0);
        x.ask(1, 0);
        x.trace(0);
    }
}
