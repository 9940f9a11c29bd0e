import java.lang.management.ManagementFactory;
import java.lang.reflect.Constructor;
import java.lang.reflect.Field;
import java.lang.reflect.Method;
import java.lang.reflect.Modifier;
import java.util.LinkedHashMap;
import java.util.Map;
import java.util.TreeSet;
import java.util.function.Consumer;

/** The public face is the document's and no more; the dearest calls of a run stay in the room that all of it has. */
public final class FaceAndRoom {
    private static final String FACE = "feed(int) road() person(int,int) light(int,int) kind(int,int,int) wind(int,int)"
        + " blows(int,int,int) set(int,int) beside(int) covers(int,int) go(int) lit() then(int) door(int) dark(int)"
        + " darkFor(int) litBy(int,int) stop() lower() changed() order(int) lantern(int) fewest(int) match() tail()"
        + " rule(int,int) best() calm(int,int) spreads(int,int) wax(int) sides() row(int) judge() clear()"
        + " seeds(int,int,int) back() all() behind(int) atFirst(int) forms(int) calms(int) farthest() turned() flame(int)"
        + " out(int) again() game(int) heirs(int) gaps(int) matches(int) image() restore() count(int)";
    private static final int CALLS = 512;
    /** 7.3 million fields and elements, most of them of four bytes. */
    private static final long ROOM = 4L * 7_300_000;
    private static int wrong = 0;

    private static void must(boolean holds, String what) {
        if (holds) return;
        wrong++;
        System.out.println("not so: " + what);
    }

    public static void main(String[] args) {
        face();
        room();
        System.out.println(wrong == 0 ? "the face and the room are as they must be" : wrong + " faults");
        if (wrong != 0) System.exit(1);
    }

    private static void face() {
        TreeSet<String> due = new TreeSet<>();
        for (String one : FACE.split(" ")) due.add("int " + one);
        due.add("long chances(int,int,int)");
        TreeSet<String> found = new TreeSet<>();
        TreeSet<String> publicNames = new TreeSet<>();
        for (Method m : LitAgain.class.getDeclaredMethods()) {
            if (Modifier.isPrivate(m.getModifiers())) continue;
            must(Modifier.isPublic(m.getModifiers()) && !Modifier.isStatic(m.getModifiers()), "public: " + m);
            String types = "";
            for (Class<?> t : m.getParameterTypes()) types += (types.isEmpty() ? "" : ",") + t.getName();
            found.add(m.getReturnType().getName() + " " + m.getName() + "(" + types + ")");
            publicNames.add(m.getName());
        }
        must(found.equals(due), "the face: " + found);
        must(Modifier.isFinal(LitAgain.class.getModifiers()) && Modifier.isPublic(LitAgain.class.getModifiers()), "a public final class");
        for (Field f : LitAgain.class.getDeclaredFields()) must(Modifier.isPrivate(f.getModifiers()), "private: " + f);
        Constructor<?>[] made = LitAgain.class.getDeclaredConstructors();
        must(made.length == 1 && made[0].getParameterCount() == 0 && Modifier.isPublic(made[0].getModifiers()), "one constructor");
        int classes = 1;
        for (Class<?> inside : LitAgain.class.getDeclaredClasses()) {
            classes++;
            boolean isHidden = !Modifier.isPublic(inside.getModifiers()) && !Modifier.isProtected(inside.getModifiers());
            must(Modifier.isStatic(inside.getModifiers()) && isHidden, "static: " + inside);
            for (Method m : inside.getDeclaredMethods()) must(!publicNames.contains(m.getName()), "another name: " + m);
            int fields = 0;
            for (Field f : inside.getDeclaredFields()) if (!Modifier.isStatic(f.getModifiers())) fields++;
            must(fields <= 20, "twenty fields: " + inside);
        }
        must(classes <= 12, "twelve classes");
        for (Method m : LitAgain.class.getDeclaredMethods()) {
            if (Modifier.isPrivate(m.getModifiers())) must(!publicNames.contains(m.getName()), "another name: " + m);
        }
    }

    private static void room() {
        Map<String, Consumer<LitAgain>> dear = new LinkedHashMap<>();
        dear.put("order", x -> x.order(0));
        dear.put("fewest", x -> x.fewest(1));
        dear.put("atFirst", x -> x.atFirst(1));
        dear.put("matches", x -> x.matches(0));
        dear.put("calms", x -> x.calms(1));
        dear.put("match", LitAgain::match);
        dear.put("stop", LitAgain::stop);
        dear.put("best", LitAgain::best);
        dear.put("seeds", x -> x.seeds(20, 77, 0));
        dear.put("chances", x -> x.chances(3, 1, 0));
        dear.put("wax", x -> x.wax(0));
        dear.put("game", x -> x.game(0));
        dear.put("heirs", x -> x.heirs(0));
        dear.put("flame", x -> x.flame(0));
        dear.put("image", LitAgain::image);
        dear.put("restore", LitAgain::restore);
        dear.put("go", x -> x.go(1));
        dear.put("feed", x -> x.feed('m'));
        dear.put("road", LitAgain::road);
        for (String call : dear.keySet()) {
            LitAgain small = made("p091;p401;p260;p561;d24;");
            LitAgain large = made("p091;p401;p500;p261;p090;p190;d24;");
            long bytes = Math.max(bytesOf(small, dear.get(call)), bytesOf(large, dear.get(call)));
            must(bytes < ROOM, CALLS + " calls of " + call + " stay in the room, but made " + bytes + " bytes");
        }
        long before = counter().getCurrentThreadAllocatedBytes();
        made("p091;");
        long bytes = counter().getCurrentThreadAllocatedBytes() - before;
        must(bytes < ROOM, "an object stays in the room, but made " + bytes + " bytes");
    }

    private static LitAgain made(String road) {
        LitAgain x = new LitAgain();
        for (int i = 0; i < road.length(); i++) x.feed(road.charAt(i));
        x.road();
        for (int place = 0; place <= 24; place++) x.blows(place, 3 + place % 4, place % 3);
        for (int i = 0; i < x.count(0); i++) x.row(x.darkFor(i));
        x.image();
        return x;
    }

    private static long bytesOf(LitAgain x, Consumer<LitAgain> call) {
        for (int i = 0; i < CALLS; i++) call.accept(x);
        long before = counter().getCurrentThreadAllocatedBytes();
        for (int i = 0; i < CALLS; i++) call.accept(x);
        return counter().getCurrentThreadAllocatedBytes() - before;
    }

    private static com.sun.management.ThreadMXBean counter() {
        return (com.sun.management.ThreadMXBean) ManagementFactory.getThreadMXBean();
    }
}
