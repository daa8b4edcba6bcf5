import java.util.ArrayList;
import java.util.List;
import java.util.Random;
import java.util.function.Supplier;

/** Long runs of calls, right and wrong, in any order: the class answers what the model answers. */
public final class WildTest {
    private static final int RUNS = 1500;
    // The document promises nothing of an object behind its 512th call.
    private static final int CALLS = 512;
    private static final int[] MAKERS = {1, 2, 300, 32766, 32767};
    private static final long[] RESTS = {0, 1, 2, 3, 0x7F00FF00L, 4294967293L, 4294967294L};
    private static final int[] MATTERS = {80, 96, 128, 130, 224, 240, 4096, 32, 130, 130, 32, 1, 2, 3, 0, 65535};
    private static final int[] GROUPS = {16, 32, 48, 48, 32, 17, 255};
    private static final int[] EDGES = {-1, 0, 1, 2, 3, 8, 23, 24, 255, 300, 301, 512, 513, 1000, 1001, 65535, 65536,
        Integer.MIN_VALUE, Integer.MAX_VALUE};

    private final Check check;
    private final int run;
    private final Random random;
    private final LampLine x = new LampLine();
    private final Model m = new Model();
    private int calls;

    private WildTest(Check check, int run) {
        this.check = check;
        this.run = run;
        this.random = new Random(run);
    }

    public static void main(String[] args) {
        Check check = new Check("WildTest");
        for (int run = 0; run < RUNS; run++) {
            new WildTest(check, run).go();
        }
        check.finish();
    }

    private void go() {
        int lamps = random.nextInt(10) == 0 ? 26 : random.nextInt(5);
        for (int k = 0; k < lamps; k++) {
            int maker = pick(MAKERS);
            long rest = lamps > 20 ? k : pickRest();
            int width = 1 + random.nextInt(random.nextBoolean() ? 3 : 64);
            int modes = 1 + random.nextInt(8);
            int address = random.nextBoolean() ? 1 + random.nextInt(6) : 1 + random.nextInt(520 - width);
            both("lamp", () -> (long) x.lamp(maker, rest, width, modes, address),
                    () -> (long) m.lamp(maker, rest, width, modes, address));
        }
        while (calls < CALLS) {
            switch (random.nextInt(14)) {
                case 0: levels(); break;
                case 1: case 2: case 3: case 4: ask(); break;
                case 5: raw(); break;
                case 6: spoil(); break;
                case 7: case 8: look(); break;
                case 9: hunt(); break;
                case 10: case 11: step(); break;
                case 12: wrong(); break;
                default: answers(); break;
            }
        }
    }

    private int pick(int[] from) {
        return from[random.nextInt(from.length)];
    }

    private long pickRest() {
        return RESTS[random.nextInt(RESTS.length)];
    }

    private int edge() {
        return random.nextInt(4) == 0 ? random.nextInt() : pick(EDGES);
    }

    private void tape(int... bytes) {
        both("end", () -> end(0), () -> (long) m.end(0));
        for (int from = 0; from < bytes.length; from += 20) {
            int[] w = new int[5];
            for (int k = 0; k < 20 && from + k < bytes.length; k++) {
                w[k / 4] |= bytes[from + k] << 24 - k % 4 * 8;
            }
            both("feed", () -> (long) x.feed(w[0], w[1], w[2], w[3], w[4]), () -> (long) m.feed(w));
        }
        both("end", () -> end(bytes.length), () -> (long) m.end(bytes.length));
    }

    private long end(int n) {
        x.end(n);
        return 0;
    }

    private void send(int... bytes) {
        tape(bytes);
        both("send", () -> (long) x.send(), () -> (long) m.send());
    }

    private void levels() {
        int[] bytes = new int[random.nextInt(8) == 0 ? 500 + random.nextInt(21) : random.nextInt(12)];
        for (int k = 1; k < bytes.length; k++) {
            bytes[k] = random.nextInt(256);
        }
        send(bytes);
    }

    private int[] dataFor(int group, int matter) {
        int size = random.nextInt(12) == 0 ? random.nextInt(40) : matter == 240 ? 2 : matter == 130 ? random.nextInt(5) : 1;
        size = group == 48 || random.nextInt(8) == 0 ? size : group == 32 && matter == 32 ? 1 : 0;
        int[] data = new int[size];
        for (int k = 0; k < size; k++) {
            data[k] = matter == 130 ? 31 + random.nextInt(30) + random.nextInt(60) : random.nextInt(10);
        }
        if (group == 16 && matter == 1 && random.nextInt(4) != 0) {
            long one = Kit.id(pick(MAKERS), pickRest());
            long two = Kit.id(pick(MAKERS), pickRest());
            return Kit.joined(Kit.idBytes(Math.min(one, two)), Kit.idBytes(Math.max(one, two)));
        }
        return data;
    }

    private int matterFor(int group) {
        return group == 16 ? 1 + random.nextInt(3) : pick(MATTERS);
    }

    private void ask() {
        int group = pick(GROUPS);
        int matter = matterFor(group);
        int maker = random.nextInt(8) == 0 ? 65535 : pick(MAKERS);
        long rest = random.nextInt(5) == 0 ? Kit.ALL_RESTS : pickRest();
        int part = random.nextInt(10) == 0 ? 65535 : random.nextInt(12) == 0 ? 1 : 0;
        tape(dataFor(group, matter));
        both("ask(" + maker + ", " + rest + ", " + part + ", " + group + ", " + matter + ")",
                () -> (long) x.ask(maker, rest, part, group, matter), () -> (long) m.ask(maker, rest, part, group, matter));
    }

    private void raw() {
        int group = pick(GROUPS);
        int matter = matterFor(group);
        long to = Kit.id(pick(MAKERS), pickRest());
        int[] head = {random.nextInt(256), random.nextInt(256), random.nextInt(256), 0, group, matter};
        int[] packet = Kit.packet(to, random.nextLong() & Kit.TO_ALL, head, dataFor(group, matter));
        int at = random.nextInt(packet.length);
        if (random.nextInt(3) == 0) {
            packet = Kit.with(packet, at, random.nextInt(256));
            packet = random.nextBoolean() ? packet : Kit.checked(packet);
        }
        send(packet);
    }

    private void spoil() {
        int many = random.nextInt(6) == 0 ? 20 : 1;
        for (int n = 0; n < many; n++) {
            int k = random.nextInt(30);
            int mask = random.nextBoolean() ? 1 << random.nextInt(8) : random.nextInt();
            both("spoil", () -> spoiled(k, mask), () -> (long) m.spoil(k, mask));
        }
    }

    private long spoiled(int k, int mask) {
        x.spoil(k, mask);
        return 0;
    }

    private void look() {
        int lamp = random.nextInt(5);
        int what = random.nextInt(11);
        int k = random.nextInt(6);
        both("about(" + lamp + ", " + what + ")", () -> (long) x.about(lamp, what), () -> m.about(lamp, what));
        both("rest", () -> x.rest(lamp), () -> m.rest(lamp));
        both("level", () -> (long) x.level(lamp, k), () -> (long) m.level(lamp, k));
        both("label", () -> (long) x.label(lamp, k), () -> (long) m.label(lamp, k));
        both("frames", () -> (long) x.frames(), () -> (long) m.frames());
    }

    private void hunt() {
        if (random.nextInt(3) == 0) {
            both("search", () -> (long) x.search(), () -> (long) m.search());
        }
        int lamp = random.nextInt(5);
        boolean on = random.nextBoolean();
        both("silence", () -> (long) x.silence(lamp, on), () -> (long) m.silence(lamp, on));
    }

    private void step() {
        int n = random.nextInt(6) == 0 ? 1 + random.nextInt(100) : 1 + random.nextInt(2);
        both("step", () -> (long) x.step(n), () -> (long) m.step(n));
        for (int what = 0; what < 3; what++) {
            int of = what;
            both("branch(" + of + ")", () -> x.branch(of), () -> m.branch(of));
        }
        both("found", () -> (long) x.found(), () -> (long) m.found());
        int i = random.nextInt(3);
        both("id", () -> x.id(i), () -> m.id(i));
    }

    private void answers() {
        for (int k = 0; k < 4; k++) {
            int at = random.nextInt(40);
            both("answer(" + at + ")", () -> (long) x.answer(at), () -> (long) m.answer(at));
        }
    }

    private void wrong() {
        int a = edge();
        int b = edge();
        int c = edge();
        long far = random.nextBoolean() ? edge() : random.nextLong();
        List<Runnable> all = new ArrayList<>(List.of(
                () -> both("lamp", () -> (long) x.lamp(a, far, b, c, 1), () -> (long) m.lamp(a, far, b, c, 1)),
                () -> both("lamp", () -> (long) x.lamp(1, 9, 1, 1, a), () -> (long) m.lamp(1, 9, 1, 1, a)),
                () -> both("end", () -> end(a), () -> (long) m.end(a)),
                () -> both("feed", () -> (long) x.feed(a, b, c, a, b), () -> (long) m.feed(a, b, c, a, b)),
                () -> both("answer", () -> (long) x.answer(a), () -> (long) m.answer(a)),
                () -> both("ask", () -> (long) x.ask(a, far, b, c, 80), () -> (long) m.ask(a, far, b, c, 80)),
                () -> both("spoil", () -> spoiled(a, b), () -> (long) m.spoil(a, b)),
                () -> both("about", () -> (long) x.about(a, b), () -> m.about(a, b))));
        all.addAll(List.of(
                () -> both("rest", () -> x.rest(a), () -> m.rest(a)),
                () -> both("level", () -> (long) x.level(a, b), () -> (long) m.level(a, b)),
                () -> both("level", () -> (long) x.level(0, b), () -> (long) m.level(0, b)),
                () -> both("label", () -> (long) x.label(a, b), () -> (long) m.label(a, b)),
                () -> both("label", () -> (long) x.label(0, b), () -> (long) m.label(0, b)),
                () -> both("silence", () -> (long) x.silence(a, true), () -> (long) m.silence(a, true)),
                () -> both("step", () -> (long) x.step(a), () -> (long) m.step(a)),
                () -> both("id", () -> x.id(a), () -> m.id(a)),
                () -> both("branch", () -> x.branch(a), () -> m.branch(a)),
                () -> both("send", () -> (long) x.send(), () -> (long) m.send())));
        all.get(random.nextInt(all.size())).run();
    }

    private void both(String call, Supplier<Long> got, Supplier<Long> want) {
        if (calls == CALLS) {
            return;
        }
        calls++;
        String due = told(want);
        String is = told(got);
        check.due("run " + run + ", call " + calls + ": " + call + " is " + is + ", the model's is " + due + ":",
                is.equals(due) ? 1 : 0, 1);
    }

    private static String told(Supplier<Long> call) {
        try {
            return String.valueOf(call.get());
        } catch (RuntimeException e) {
            return e.getClass().getSimpleName();
        }
    }
}
