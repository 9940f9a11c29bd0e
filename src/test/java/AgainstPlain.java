import java.lang.reflect.Method;
import java.lang.reflect.Modifier;
import java.util.ArrayList;
import java.util.Arrays;
import java.util.Comparator;
import java.util.List;
import java.util.Random;
import java.util.Set;

/** Long runs of calls by fixed seeds, each answered by LitAgain and by Plain: they must be alike. */
public final class AgainstPlain {
    private static final int RUNS = 300;
    private static final int CALLS = 512;
    private static final Set<String> CHANGES = Set.of("light", "kind", "blows", "set", "restore", "feed", "road", "row", "judge", "clear");
    private static final Set<String> PERSONS = Set.of("person", "light", "kind", "darkFor", "litBy", "flame", "out", "heirs", "beside", "covers");
    private static int wrong = 0;

    private final int run;
    private final Random random;
    private final LitAgain x = new LitAgain();
    private final Plain plain = new Plain();
    private final List<String> told = new ArrayList<>();
    private boolean alike = true;

    private AgainstPlain(int run) {
        this.run = run;
        random = new Random(977L * run + 5);
    }

    public static void main(String[] args) throws Exception {
        List<Method> calls = new ArrayList<>();
        for (Method m : LitAgain.class.getDeclaredMethods()) if (Modifier.isPublic(m.getModifiers())) calls.add(m);
        calls.sort(Comparator.comparing(Method::getName));
        if (calls.size() != 55 - 1) throw new IllegalStateException("not the face: " + calls.size());
        for (int run = 0; run < RUNS && wrong < 5; run++) new AgainstPlain(run).compareAll(calls);
        System.out.println(wrong == 0 ? "alike in " + RUNS + " runs" : "not alike");
        if (wrong != 0) System.exit(1);
    }

    private void compareAll(List<Method> calls) throws Exception {
        setUp();
        while (alike && told.size() < CALLS) {
            int dice = random.nextInt(100);
            if (dice < 6) call("go", random.nextInt(3) / 2);
            else if (dice < 8) call("back");
            else if (dice < 9) tellRoad(roadText(false));
            else if (dice < 11) honestRow();
            else if (dice < 12) call("set", 2, Math.min(24, x.count(2) + random.nextInt(8)));
            else {
                Method m = calls.get(random.nextInt(calls.size()));
                if (CHANGES.contains(m.getName()) && random.nextInt(4) > 0) continue;
                compare(m, argumentsFor(m));
            }
        }
    }

    private void setUp() throws Exception {
        if (random.nextInt(8) == 0) call("image");
        tellRoad(roadText(true));
        int sides = random.nextInt(4);
        int least = random.nextInt(6);
        for (int place = 0; place < 25; place++) {
            int force = Math.min(9, least + random.nextInt(10 - least) + random.nextInt(2));
            if (random.nextInt(3) == 0) force = random.nextInt(4);
            call("blows", place, force, sides == 3 ? random.nextInt(3) : sides);
        }
        if (random.nextInt(2) == 0) call("image");
    }

    /** A row that holds of some people or minutes, so that wax and judge have something to find. */
    private void honestRow() throws Exception {
        call("clear");
        boolean forWax = random.nextInt(2) == 0;
        int many = forWax ? x.count(0) : Math.min(12, x.count(6) - x.count(2) + random.nextInt(2));
        for (int i = 0; i < many; i++) call("row", forWax ? x.darkFor(i) : Integer.bitCount(x.then(i + 1)));
        if (random.nextInt(3) == 0) call("row", random.nextInt(4));
        call("wax", 0);
        call("wax", 1);
        if (!forWax) call("judge");
    }

    private void tellRoad(String text) throws Exception {
        for (char c : text.toCharArray()) call("feed", (int) c);
        call("road");
    }

    private String roadText(boolean first) {
        StringBuilder text = new StringBuilder();
        int people = first ? Math.min(8, random.nextInt(10)) : random.nextInt(2);
        int kinds = random.nextInt(3);
        for (int i = 0; i < people; i++) {
            int kind = kinds == 0 ? random.nextInt(7) : new int[] {0, 1, 2, 4, 5, 6, 0, 2}[random.nextInt(8)];
            int lit = kind == 6 ? 0 : random.nextInt(2);
            text.append('p').append(kind).append(random.nextInt(10)).append(lit).append(';');
        }
        if (random.nextInt(2) == 0) text.append('f').append(random.nextInt(3)).append(1 + random.nextInt(2)).append(';');
        if (random.nextInt(3) == 0) text.append(String.format("d%02d;", 1 + random.nextInt(24)));
        if (random.nextInt(3) == 0) text.append(String.format("w%02d%d%d;", random.nextInt(25), random.nextInt(10), random.nextInt(3)));
        if (random.nextInt(3) == 0) text.append('l').append(random.nextInt(8)).append(';');
        if (random.nextInt(3) == 0) text.append('m').append(random.nextInt(2)).append(';');
        if (!first && random.nextInt(4) == 0 && text.length() > 0) {
            text.setCharAt(random.nextInt(text.length()), "pwfdlm;0123456789x".charAt(random.nextInt(18)));
        }
        if (!first && random.nextInt(8) == 0 && text.length() > 0) text.setLength(text.length() - 1);
        return text.toString();
    }

    private Object[] argumentsFor(Method m) {
        Object[] arguments = new Object[m.getParameterCount()];
        boolean far = random.nextInt(15) == 0;
        int[] odd = {-1, -2, 3, 8, 9, 10, 24, 25, 60, 61, 99, 100, 255, 256, Integer.MAX_VALUE, Integer.MIN_VALUE};
        for (int i = 0; i < arguments.length; i++) {
            arguments[i] = far && random.nextBoolean() ? odd[random.nextInt(odd.length)] : near(m.getName(), i);
        }
        return arguments;
    }

    private int near(String name, int i) {
        if (i == 0 && PERSONS.contains(name)) return random.nextInt(Math.max(1, x.count(0)));
        switch (name + i) {
            case "feed0": return "p0010;w;".charAt(random.nextInt(8));
            case "count0": return random.nextInt(19) - 1;
            case "person1": case "kind1": return random.nextInt(7);
            case "kind2": case "blows1": return random.nextInt(10);
            case "blows0": case "wind0": case "covers1": case "litBy1": case "then0": return random.nextInt(25);
            case "set0": case "door0": case "game0": case "blows2": return random.nextInt(3);
            case "set1": return 1 + random.nextInt(3) - random.nextInt(2);
            case "calm0": case "calm1": case "spreads0": case "spreads1": return random.nextInt(101);
            case "row0": return random.nextInt(13);
            case "behind0": return random.nextInt(13);
            case "seeds0": return 1 + random.nextInt(20);
            case "seeds1": return random.nextInt();
            case "rule0": return random.nextInt(5);
            case "chances0": return random.nextInt(4);
            case "matches0": return random.nextInt(5) - 1;
            default: return random.nextInt(2);
        }
    }

    private void call(String name, Object... arguments) throws Exception {
        Class<?>[] types = new Class<?>[arguments.length];
        Arrays.fill(types, int.class);
        compare(LitAgain.class.getMethod(name, types), arguments);
    }

    private void compare(Method m, Object[] arguments) throws Exception {
        if (!alike || told.size() >= CALLS) return;
        Object got = m.invoke(x, arguments);
        Object want = Plain.class.getMethod(m.getName(), m.getParameterTypes()).invoke(plain, arguments);
        told.add(m.getName() + Arrays.toString(arguments) + " -> " + got);
        if (got.equals(want)) return;
        alike = false;
        wrong++;
        System.out.println("run " + run + ": " + told.get(told.size() - 1) + ", due is " + want);
        System.out.println("  behind " + told.subList(Math.max(0, told.size() - 120), told.size()));
    }
}
