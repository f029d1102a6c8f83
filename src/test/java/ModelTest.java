import java.lang.reflect.InvocationTargetException;
import java.lang.reflect.Method;
import java.util.ArrayList;
import java.util.Arrays;
import java.util.List;
import java.util.Map;
import java.util.Random;
import java.util.TreeMap;

/** Runs of calls by chance (of fixed seeds, so always the same ones), all promises, compared with the Model. */
public final class ModelTest {
    private static final int CALLS = 512;
    private static final int[] ODD = {-1, -2, 6, 7, 8, 40, 41, 60, 61, 255, 256, 1000,
        Integer.MAX_VALUE, Integer.MIN_VALUE, Integer.MAX_VALUE - 1};
    /** Calls that change much come less often than they would among all. */
    private static final List<String> RARE = List.of("hotel", "tear", "text", "undo", "on", "put");
    private static final Checks c = new Checks("ModelTest");
    private static final List<Method> METHODS = methods();
    private static final Map<String, Integer> ANSWERED = new TreeMap<>();

    private static List<Method> methods() {
        List<Method> all = new ArrayList<>();
        for (Method m : SecondRoom.class.getMethods()) {
            if (m.getDeclaringClass() == SecondRoom.class) {
                all.add(m);
            }
        }
        all.sort((a, b) -> a.getName().compareTo(b.getName()));
        return all;
    }

    private final Random random;
    private final SecondRoom x = new SecondRoom();
    private final Model model = new Model();
    private int calls = 0;

    private ModelTest(long seed) {
        random = new Random(seed);
    }

    private void compare(Method m, int... args) {
        Object[] boxed = new Object[args.length];
        for (int i = 0; i < args.length; i++) {
            boxed[i] = args[i];
        }
        long got;
        try {
            got = ((Number) m.invoke(x, boxed)).longValue();
        } catch (InvocationTargetException | IllegalAccessException e) {
            throw new IllegalStateException(m.getName() + Arrays.toString(args), e);
        }
        long want = model.call(m.getName(), args);
        String call = m.getName() + Arrays.toString(args);
        c.due(call, got, want);
        c.due(call + " asked", x.asked(), model.call("asked"));
        c.due(call + " upper", x.upper(), model.call("upper"));
        c.due(call + " lower", x.lower(), model.call("lower"));
        c.due(call + " finding", x.finding(), model.call("finding"));
        if (want >= 0 || want == SecondRoom.NONE || m.getName().equals("digest")) {
            ANSWERED.merge(m.getName(), 1, Integer::sum);
        }
        calls++;
    }

    private void compare(String name, int... args) {
        for (Method m : METHODS) {
            if (m.getName().equals(name)) {
                compare(m, args);
            }
        }
    }

    private String blanks() {
        return random.nextInt(4) == 0 ? " ".repeat(random.nextInt(3)) : "";
    }

    /** Few TURNS mostly, so that LIVES meet and there are pairs and rings. */
    private String hotelText() {
        int n = random.nextInt(3) == 0 ? 2 + random.nextInt(5) : 2 + random.nextInt(2);
        StringBuilder s = new StringBuilder(blanks() + "n" + n + blanks());
        for (int g = 1 + random.nextInt(5); g > 0; g--) {
            s.append("gscplu".charAt(random.nextInt(6)));
            for (int k = 0; k < n; k++) {
                s.append(random.nextInt(2));
            }
            s.append(random.nextInt(n)).append(blanks());
        }
        int things = 1 + random.nextInt(8);
        for (int o = 0; o < things && s.length() < 54; o++) {
            s.append("o").append(random.nextInt(n)).append(random.nextInt(2));
            s.append(random.nextInt(n)).append(random.nextInt(2)).append(blanks());
        }
        s.setLength(Math.min(s.length(), 60));
        return s.toString();
    }

    private String spoilt(String text) {
        StringBuilder s = new StringBuilder(text);
        int i = random.nextInt(s.length());
        switch (random.nextInt(4)) {
            case 0: s.setCharAt(i, " gscpluno0123456789x\u0000\u00ff".charAt(random.nextInt(22))); break;
            case 1: s.deleteCharAt(i); break;
            case 2: s.setLength(i); break;
            default: s.insert(i, "gsno 01".charAt(random.nextInt(7)));
        }
        s.setLength(Math.min(s.length(), 60));
        return s.toString();
    }

    private void write(int t, String text) {
        compare("text", t, text.length());
        for (int i = 0; i < text.length(); i++) {
            if (text.charAt(i) != ' ') {
                compare("put", t, i, text.charAt(i));
            }
        }
        compare("fault", t);
    }

    private int anyNumber(String name, int at) {
        if (random.nextInt(25) == 0) {
            return ODD[random.nextInt(ODD.length)];
        }
        if (name.equals("lots") && at == 1) {
            return random.nextInt();
        }
        if ((name.equals("lay") || name.equals("put")) && at == 2) {
            return random.nextInt(3) == 0 ? random.nextInt() : random.nextInt(200) - 100;
        }
        boolean ofSet = at == 1 && (name.equals("fits") || name.equals("who")) || name.equals("lives");
        if (ofSet || name.equals("has")) {
            return random.nextInt(1 << random.nextInt(7));
        }
        return random.nextInt(random.nextInt(3) == 0 ? 7 : 3);
    }

    private void anyCall() {
        Method m = METHODS.get(random.nextInt(METHODS.size()));
        if (RARE.contains(m.getName()) && random.nextInt(5) > 0) {
            return;
        }
        int[] args = new int[m.getParameterCount()];
        for (int i = 0; i < args.length; i++) {
            args[i] = anyNumber(m.getName(), i);
        }
        compare(m, args);
    }

    private void hotelRun() {
        write(0, hotelText());
        compare("hotel", 0);
        if (random.nextInt(3) == 0) {
            write(1, hotelText());
        }
        for (int r = 0; r < 6; r++) {
            compare("row", r, random.nextInt(8));
            compare("turn", random.nextInt(5), random.nextInt(4));
            compare("lay", r, random.nextInt(4), random.nextInt());
            compare("copy", r, random.nextInt(3), random.nextInt(r + 1), random.nextInt(3), random.nextInt(4));
        }
        for (int tries = 0; tries < 10 * CALLS && calls < CALLS; tries++) {
            anyCall();
            if (tries % 50 == 0) {
                c.due("digest", x.digest(), model.call("digest"));
            }
        }
        c.due("digest at the end", x.digest(), model.call("digest"));
    }

    private void faultRun() {
        for (int t = 0; t < 8; t++) {
            String text = spoilt(hotelText());
            write(t % 4, random.nextInt(4) == 0 && text.length() > 0 ? spoilt(text) : text);
            compare("hotel", t % 4);
        }
    }

    private static void allWereAnswered() {
        for (Method m : METHODS) {
            int answered = ANSWERED.getOrDefault(m.getName(), 0);
            c.due(m.getName() + " was answered often (" + answered + ")", answered > 300 ? 1 : 0, 1);
        }
    }

    public static void main(String[] args) {
        int runs = args.length > 0 ? Integer.parseInt(args[0]) : 400;
        for (int seed = 1; seed <= runs; seed++) {
            new ModelTest(seed).hotelRun();
            new ModelTest(-seed).faultRun();
        }
        allWereAnswered();
        c.end();
    }
}
