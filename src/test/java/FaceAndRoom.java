import java.lang.management.ManagementFactory;
import java.lang.reflect.Constructor;
import java.lang.reflect.Field;
import java.lang.reflect.Method;
import java.lang.reflect.Modifier;
import java.util.TreeSet;

/** The public face is the document's and no more; calls make no objects. */
public final class FaceAndRoom {
    private static final String FACE = "feed(int) road() person(int,int) light(int,int) kind(int,int,int) wind(int,int)"
        + " blows(int,int,int) set(int,int) beside(int) covers(int,int) go(int) lit() then(int) door(int) dark(int)"
        + " darkFor(int) litBy(int,int) stop() lower() changed() order(int) lantern(int) fewest(int) match() tail()"
        + " rule(int,int) best() calm(int,int) spreads(int,int) wax(int) sides() row(int) judge() clear()"
        + " seeds(int,int,int) back() all() behind(int) atFirst(int) forms(int) calms(int) farthest() turned() flame(int)"
        + " out(int) again() game(int) heirs(int) gaps(int) matches(int) image() restore() count(int)";
    private static int wrong = 0;

    private static void must(boolean holds, String what) {
        if (holds) return;
        wrong++;
        System.out.println("not so: " + what);
    }

    public static void main(String[] args) {
        face();
        room();
        System.out.println(wrong == 0 ? "the face and the room are as they must be" : wrong + " faults");
        if (wrong != 0) System.exit(1);
    }

    private static void face() {
        TreeSet<String> due = new TreeSet<>();
        for (String one : FACE.split(" ")) due.add("int " + one);
        due.add("long chances(int,int,int)");
        TreeSet<String> found = new TreeSet<>();
        TreeSet<String> publicNames = new TreeSet<>();
        for (Method m : LitAgain.class.getDeclaredMethods()) {
            if (Modifier.isPrivate(m.getModifiers())) continue;
            must(Modifier.isPublic(m.getModifiers()) && !Modifier.isStatic(m.getModifiers()), "public: " + m);
            String types = "";
            for (Class<?> t : m.getParameterTypes()) types += (types.isEmpty() ? "" : ",") + t.getName();
            found.add(m.getReturnType().getName() + " " + m.getName() + "(" + types + ")");
            publicNames.add(m.getName());
        }
        must(found.equals(due), "the face: " + found);
        must(Modifier.isFinal(LitAgain.class.getModifiers()) && Modifier.isPublic(LitAgain.class.getModifiers()), "a public final class");
        for (Field f : LitAgain.class.getDeclaredFields()) must(Modifier.isPrivate(f.getModifiers()), "private: " + f);
        Constructor<?>[] made = LitAgain.class.getDeclaredConstructors();
        must(made.length == 1 && made[0].getParameterCount() == 0 && Modifier.isPublic(made[0].getModifiers()), "one constructor");
        int classes = 1;
        for (Class<?> inside : LitAgain.class.getDeclaredClasses()) {
            classes++;
            must(Modifier.isStatic(inside.getModifiers()) && Modifier.isPrivate(inside.getModifiers()), "static: " + inside);
            for (Method m : inside.getDeclaredMethods()) must(!publicNames.contains(m.getName()), "another name: " + m);
            must(inside.getDeclaredFields().length <= 20, "twenty fields: " + inside);
        }
        must(classes <= 12, "twelve classes");
        for (Method m : LitAgain.class.getDeclaredMethods()) {
            if (Modifier.isPrivate(m.getModifiers())) must(!publicNames.contains(m.getName()), "another name: " + m);
        }
    }

    private static void room() {
        LitAgain x = new LitAgain();
        askAll(x);
        askAll(x);
        com.sun.management.ThreadMXBean counter = (com.sun.management.ThreadMXBean) ManagementFactory.getThreadMXBean();
        counter.getCurrentThreadAllocatedBytes();
        long before = counter.getCurrentThreadAllocatedBytes();
        for (int i = 0; i < 4; i++) askAll(x);
        long made = counter.getCurrentThreadAllocatedBytes() - before;
        must(made < 4096, "calls make no objects, but " + made + " bytes came");
    }

    private static void askAll(LitAgain x) {
        String text = "p091;p401;p500;p261;w0152;w0360;w0541;d12;";
        if (x.count(0) < 6) {
            for (int i = 0; i < text.length(); i++) x.feed(text.charAt(i));
            x.road();
        }
        x.image();
        for (int i = 0; i < 10; i++) x.go(0);
        x.back();
        x.restore();
        for (int i = 0; i < x.count(0); i++) {
            x.row(x.darkFor(i));
            x.person(i, 6);
            x.flame(i);
            x.out(i);
            x.heirs(i);
            x.litBy(i, 24);
        }
        x.wax(0);
        x.judge();
        for (int what = 0; what < 2; what++) {
            x.order(what);
            x.lantern(what);
            x.fewest(what);
            x.atFirst(what);
            x.forms(what);
            x.calms(what);
            x.game(what);
            x.gaps(what);
            x.dark(what);
            x.door(what);
            x.seeds(20, 77, what);
            x.chances(3, what, 0);
        }
        for (int rule = 0; rule < 5; rule++) x.rule(rule, 0);
        x.stop();
        x.lower();
        x.changed();
        x.match();
        x.tail();
        x.best();
        x.sides();
        x.all();
        x.behind(60);
        x.farthest();
        x.turned();
        x.again();
        x.matches(0);
        x.then(24);
    }
}
