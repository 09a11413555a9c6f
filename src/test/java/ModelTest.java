import java.util.Random;

/** Long runs of drawn calls, each answer compared with the Model's. The draws are the same every time. */
public final class ModelTest {
    private static final int RUNS = 3000;
    private static final int CALLS = 512;
    private static final int[] WILD = {
        Integer.MIN_VALUE, Integer.MIN_VALUE + 1, -1000, -2, -1, 0, 1, 7, 40, 41, 64, 99, 100, 128, 200, 255, 256,
        32768, 65535, 999999, 1000000, Integer.MAX_VALUE - 1, Integer.MAX_VALUE};

    private static final Due due = new Due("ModelTest");

    private final Random random;
    private final BeatBounds real = new BeatBounds();
    private final Model model = new Model();
    private final StringBuilder ahead = new StringBuilder();
    private final int wildness;
    private final int yearness;
    private int left = CALLS;

    private ModelTest(int seed) {
        random = new Random(seed);
        wildness = random.nextInt(3) == 0 ? 8 : 40;
        yearness = random.nextInt(8) == 0 ? 1 : 4;
    }

    public static void main(String[] args) {
        for (int run = 0; run < RUNS && due.wrong() == 0; run++) {
            ModelTest test = new ModelTest(run);
            test.go();
            if (due.wrong() != 0) {
                System.out.println("run " + run + ", the calls ahead:\n" + test.ahead);
            }
        }
        due.end();
    }

    private void go() {
        int start = random.nextInt(30);
        if (start > 0) {
            tell();
        }
        if (start == 1) {
            growOld();
        }
        if (start == 2) {
            overfeed();
        }
        while (left > 0 && due.wrong() == 0) {
            int draw = random.nextInt(100);
            boolean dull = start > 0 && model.count(4) == 0;
            if (draw == 0 || draw < 10 && dull) {
                tell();
            } else if (draw < 35) {
                act();
            } else {
                any(random.nextInt(36));
            }
        }
    }

    /** To where a year more is one too many. */
    private void growOld() {
        for (int i = 0; i < 41; i++) {
            call("years", 24);
        }
        for (int i = 0; i < 20; i++) {
            call("years", num(1, 6));
        }
    }

    private void overfeed() {
        for (int i = 0; i < 123; i++) {
            call("feed", num(0, 255));
        }
    }

    private void act() {
        int draw = random.nextInt(10);
        any(draw < 4 ? 8 : draw < 5 ? 9 : draw < 7 ? 10 : draw < 7 + 4 / yearness ? 11 : 8);
    }

    /** One of these from least to greatest, now and then any other number. */
    private int num(int least, int greatest) {
        if (random.nextInt(wildness) == 0) {
            return random.nextBoolean() ? WILD[random.nextInt(WILD.length)]
                : random.nextBoolean() ? least - 1 : greatest + 1;
        }
        return least + random.nextInt(greatest - least + 1);
    }

    private int stone() {
        return num(0, Math.max(0, model.count(1) - 1));
    }

    private int one() {
        return num(0, Math.max(0, model.count(2) - 1));
    }

    private int yard(int stone) {
        int draw = random.nextInt(4);
        int near = draw == 0 ? model.likeliest(stone) : draw == 1 ? model.sworn(stone, 2) : model.stone(stone);
        return near >= 0 && draw < 3 ? near : num(0, 99);
    }

    private int who() {
        int all = (1 << model.count(2)) - 1;
        return random.nextInt(3) == 0 ? all : num(0, Math.max(0, all));
    }

    private void tell() {
        StringBuilder text = new StringBuilder();
        text.append('w').append(1 + random.nextInt(random.nextBoolean() ? 6 : 30)).append(',');
        text.append(1 + random.nextInt(random.nextBoolean() ? 6 : 30)).append(';');
        int base = random.nextInt(100);
        for (int n = part(); n > 0; n--) {
            text.append('s').append(random.nextBoolean() ? base : random.nextInt(100)).append(';');
        }
        for (int n = part(); n > 0; n--) {
            int age = random.nextInt(3) == 0 ? random.nextInt(61) : random.nextInt(20);
            text.append("hbdtn".charAt(random.nextInt(5))).append(age).append(',');
            text.append(age + 1 + random.nextInt(99 - age)).append(';');
        }
        if (random.nextInt(5) == 0) {
            spoil(text);
        }
        for (int i = 0; i < text.length(); i++) {
            call("feed", text.charAt(i));
        }
        call("parish");
        call("fault");
    }

    private int part() {
        int draw = random.nextInt(30);
        return draw == 0 ? 7 : draw == 1 ? 0 : draw < 10 ? 6 : 1 + random.nextInt(6);
    }

    private void spoil(StringBuilder text) {
        String signs = "whbdtnsa0123456789,;;, xzA`{/:" + (char) 200;
        for (int n = 1 + random.nextInt(2); n > 0; n--) {
            int at = random.nextInt(text.length());
            char sign = signs.charAt(random.nextInt(signs.length()));
            switch (random.nextInt(4)) {
                case 0 -> text.setCharAt(at, sign);
                case 1 -> text.insert(at, sign);
                case 2 -> text.deleteCharAt(at);
                default -> text.setLength(Math.max(1, at));
            }
        }
    }

    private void any(int call) {
        int s = stone();
        switch (call) {
            case 0 -> call("row", num(0, 3), num(0, 2), num(0, random.nextBoolean() ? 8 : 40));
            case 1 -> call("set", num(0, 3), num(0, 7), random.nextInt(4) == 0 ? -1 : num(0, 99));
            case 2 -> call("copy", num(0, 3), num(0, 5), num(0, 3), num(0, 5), num(0, 5));
            case 3 -> call("drop", num(0, 7));
            case 4 -> call("feed", num(0, 255));
            case 5 -> call(random.nextInt(6) == 0 ? "parish" : "fault");
            case 6, 7 -> call(random.nextInt(3) == 0 ? "undo" : "fault");
            case 8 -> call("walk", s, who(), num(1, 9));
            case 9 -> call("move", s, yard(s));
            case 10 -> call("bribe", one(), random.nextBoolean() ? num(-20, 20) : num(-3, 3));
            case 11 -> call("years", num(1, random.nextInt(yearness) == 0 ? 24 : 6));
            case 12 -> call("witness", one(), num(0, 4));
            case 13 -> call("memory", one(), s, num(0, 3));
            case 14 -> call("stone", s);
            case 15 -> call("sworn", s, num(0, 5));
            case 16 -> call("belief", s, yard(s), num(0, 1));
            case 17 -> call("likeliest", s);
            case 18 -> call("till", s, num(1, 6));
            case 19 -> call("take", s, num(1, 9), num(1, random.nextBoolean() ? 20 : 60), num(1, 6), num(0, 1));
            case 20 -> call("pain", s, num(1, random.nextBoolean() ? 20 : 60), num(1, 6));
            case 21 -> call("order", s, num(-1, 5));
            case 22 -> stood();
            case 23 -> call("shift", s, num(0, 6));
            case 24 -> call("map", s, yard(s));
            case 25 -> call("agree", num(1, 6));
            case 26 -> call("drawn", num(0, 60), num(1, 999999), num(0, 1));
            case 27 -> call("image", num(0, 1));
            case 28 -> call(random.nextInt(3) == 0 ? "restore" : "image", num(0, 1));
            case 29 -> call("kind", one());
            case 30 -> call("as", one(), num(0, 5));
            case 31 -> asked();
            case 32 -> call("trace", num(0, 8));
            case 33, 34 -> call("count", num(0, 6));
            default -> call("status");
        }
    }

    private void asked() {
        call("ask", one(), num(0, 1));
        for (int i = 0; i < 7; i++) {
            call("trace", i);
        }
    }

    private void stood() {
        int row = num(0, 3);
        int about = random.nextInt(100);
        call("row", row, num(0, 2), num(6, 8));
        for (int i = 0; i < 8; i++) {
            call("set", row, i, random.nextInt(5) == 0 ? -1 : about - 3 + random.nextInt(random.nextInt(12) + 1));
        }
        int from = num(0, 2);
        call("stood", row, from, num(0, 1));
        call("stood", row, from, num(0, 1));
        call("status");
    }

    private void call(String name, int... a) {
        if (left == 0) {
            return;
        }
        left--;
        StringBuilder told = new StringBuilder(name).append('(');
        for (int i = 0; i < a.length; i++) {
            told.append(i == 0 ? "" : ", ").append(a[i]);
        }
        told.append(')');
        int got = answer(real, name, a);
        int want = answer(model, name, a);
        due.is(told.toString(), got, want);
        ahead.append(told).append(" = ").append(got).append('\n');
    }

    private static int answer(Object of, String name, int[] a) {
        Class<?>[] types = new Class<?>[a.length];
        Object[] given = new Object[a.length];
        for (int i = 0; i < a.length; i++) {
            types[i] = int.class;
            given[i] = a[i];
        }
        try {
            return (int) of.getClass().getDeclaredMethod(name, types).invoke(of, given);
        } catch (ReflectiveOperationException e) {
            throw new IllegalStateException(name, e);
        }
    }
}
