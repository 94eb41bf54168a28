import com.sun.management.ThreadMXBean;
import java.lang.management.ManagementFactory;
import java.lang.reflect.Constructor;
import java.lang.reflect.Field;
import java.lang.reflect.Method;
import java.lang.reflect.Modifier;
import java.nio.file.Files;
import java.nio.file.Path;
import java.util.Set;
import java.util.TreeSet;

/** The public face, the words that LANGUAGE.md rules out, and the room that calls take. */
public final class FaceTest {
    private static final String FACE = "feed(int) end(int) text() fault() rule(int) man(int,int) walk(int,int)"
        + " street(int,int) reader(int,int) alter(int,int,int) detour(int,int,int) shift(int,int) stand(int,int,int)"
        + " rain(int,int) pave(int,int) at(int,int) reads(int,int,int) knows(int,int,int) first(int,int) all(int)"
        + " meet(int,int) best(int,int) late(int,int) soon(int,int) begin(int,int) kind(int,int) swap(int)"
        + " spoil(int,int) luck(int,int,int,int) mean(int,int) see(int,int,int,boolean) forget(int) kinds(int)"
        + " news(int) ask(int,int) drift(int,int,int) keep(int) back(int) sheet(int,int,int) lay(int,int,int)"
        + " read(int,int,int,int) torn() count(int)";
    private static final String RULED_OUT = "\\b(throw|try|catch|synchronized|assert|import|package|Object|System\\.out"
        + "|Random|Thread|hashCode)\\b|->|::";

    private final Due due = new Due();

    public static void main(String[] args) throws Exception {
        FaceTest t = new FaceTest();
        t.face();
        t.names();
        t.words();
        t.room();
        t.due.finish("FaceTest");
    }

    private static boolean isHidden(int modifiers) {
        return Modifier.isPrivate(modifiers);
    }

    private void face() {
        Set<String> due43 = new TreeSet<>(Set.of(FACE.split(" ")));
        Set<String> got = new TreeSet<>();
        for (Method method : BoardPress.class.getDeclaredMethods()) {
            if (!isHidden(method.getModifiers())) {
                String types = "";
                for (Class<?> type : method.getParameterTypes()) {
                    types += (types.isEmpty() ? "" : ",") + type;
                }
                got.add(method.getName() + "(" + types + ")");
                boolean isLong = Set.of("luck", "mean").contains(method.getName());
                due.is(method + " has the answer's type", method.getReturnType() == (isLong ? long.class : int.class) ? 1 : 0, 1);
                due.is(method + " is public, no more", method.getModifiers(), Modifier.PUBLIC);
            }
        }
        due.is("the calls are " + got, got.equals(due43) ? 1 : 0, 1);
        due.is("calls", got.size(), 43);
        int fields = 0;
        for (Field field : BoardPress.class.getDeclaredFields()) {
            fields += isHidden(field.getModifiers()) ? 0 : 1;
        }
        due.is("constants", fields, 4);
        int makers = 0;
        for (Constructor<?> maker : BoardPress.class.getDeclaredConstructors()) {
            makers += Modifier.isPublic(maker.getModifiers()) ? maker.getParameterCount() + 1 : 100;
        }
        due.is("constructors", makers, 1);
        due.is("public final", BoardPress.class.getModifiers(), Modifier.PUBLIC | Modifier.FINAL);
    }

    /** No method of the program's own bears the name of one of the face; classes inside are static. */
    private void names() {
        Set<String> taken = new TreeSet<>();
        for (String call : FACE.split(" ")) {
            taken.add(call.substring(0, call.indexOf('(')));
        }
        for (Method method : BoardPress.class.getDeclaredMethods()) {
            boolean twice = isHidden(method.getModifiers()) && taken.contains(method.getName());
            due.is(method + " bears a name of its own", twice ? 1 : 0, 0);
        }
        for (Class<?> inside : BoardPress.class.getDeclaredClasses()) {
            due.is(inside + " is static", Modifier.isStatic(inside.getModifiers()) ? 1 : 0, 1);
            for (Method method : inside.getDeclaredMethods()) {
                due.is(method + " bears a name of its own", taken.contains(method.getName()) ? 1 : 0, 0);
            }
        }
    }

    private void words() throws Exception {
        String source = Files.readString(Path.of("src/main/java/BoardPress.java"));
        String code = source.replaceAll("(?s)/\\*.*?\\*/", "").replaceAll("//[^\n]*", "");
        java.util.regex.Matcher found = java.util.regex.Pattern.compile(RULED_OUT).matcher(code);
        due.is("words that are ruled out", found.find() ? 1 : 0, 0);
        for (int i = 0; i < source.length(); i++) {
            if (source.charAt(i) > 126) {
                due.is("a sign at " + i, source.charAt(i), 0);
            }
        }
    }

    /** All calls of a run live in one room, so a call makes nothing that stays there. */
    private void room() {
        ThreadMXBean bean = (ThreadMXBean) ManagementFactory.getThreadMXBean();
        long thread = Thread.currentThread().getId();
        BoardPress x = new BoardPress();
        String text = "street 0 1;street 1 2;thin 4 0 1;stout 5 1 2;plain 4 0;old 2 1 0;reader 1 4 20;reader 0 0 59;rain 1 1;";
        for (int i = 0; i < 100; i++) {
            useAll(x, text);
        }
        long before = bean.getThreadAllocatedBytes(thread);
        long overhead = bean.getThreadAllocatedBytes(thread) - before;
        before = bean.getThreadAllocatedBytes(thread);
        for (int i = 0; i < 100; i++) {
            useAll(x, text);
        }
        long made = bean.getThreadAllocatedBytes(thread) - before - overhead;
        due.is("bytes that 100 runs of all calls make", made, 0);
    }

    private static void useAll(BoardPress x, String text) {
        x.end(0);
        for (int i = 0; i < text.length(); i++) {
            x.feed(text.charAt(i));
        }
        x.text();
        x.fault();
        x.see(0, 4, 9, true);
        x.see(1, 2, 40, false);
        x.keep(0);
        x.sheet(0, 1, 40);
        x.lay(0, 1, 2);
        x.read(0, 1, 0, 20);
        x.torn();
        for (int m = 0; m < 4; m++) {
            useMan(x, m);
            useReader(x, m);
        }
        for (int what = 0; what < 2; what++) {
            x.swap(what);
            x.spoil(9, what);
            x.mean(3, what);
            x.drift(7, 60, what);
        }
        x.pave(3, 4);
        x.rain(2, 2);
        x.forget(1);
        x.back(0);
        x.count(4);
    }

    private static void useMan(BoardPress x, int m) {
        x.man(m, 4);
        x.walk(m, 0);
        x.street(m, 1);
        x.alter(m, 0, m);
        x.detour(m, 0, 1);
        x.shift(m, 1);
        x.at(m, 6);
        x.meet(m, 0);
        x.begin(m, 0);
        x.kind(m, 0);
        x.kinds(m);
        x.news(m);
        x.ask(m, 0);
        x.rule(5);
        x.all(4);
    }

    private static void useReader(BoardPress x, int r) {
        x.reader(r, 0);
        x.stand(r, 0, r);
        x.reads(r, 6, 1);
        x.knows(r, 59, 2);
        x.first(r, 4);
        x.best(r, 0);
        x.late(r, 4);
        x.soon(r, 4);
        x.luck(3, r, 4, 0);
    }
}
