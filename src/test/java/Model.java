import java.util.ArrayList;
import java.util.Arrays;
import java.util.List;
import java.util.TreeSet;

/** The document once more, in lists and sets: slow and plain, to be compared with the class. */
final class Model {
    private static final class Lamp {
        long id;
        int width;
        int modes;
        int mode = 1;
        int address;
        boolean silent;
        boolean shows;
        int orders;
        List<Integer> label = List.of();
        final int[] levels = new int[513];
        final TreeSet<Integer> lit = new TreeSet<>();
        final List<Integer> dueFrames = new ArrayList<>();
        final List<List<Integer>> dueLabels = new ArrayList<>();
        final List<int[]> waiting = new ArrayList<>();

        int footprint() {
            return width * mode;
        }
    }

    private final List<Lamp> lamps = new ArrayList<>();
    private List<Integer> tape = new ArrayList<>();
    private final List<int[]> spoils = new ArrayList<>();
    private int[] answer = {};
    private int frames;
    private int asked;
    private boolean searching;
    private long steps;
    private final List<long[]> pile = new ArrayList<>();
    private final List<Long> found = new ArrayList<>();

    int lamp(int maker, long rest, int width, int modes, int address) {
        argument(maker >= 1 && maker <= 32767 && rest >= 0 && rest <= 4294967294L);
        argument(width >= 1 && width <= 64 && modes >= 1 && modes <= 8);
        argument(address >= 1 && address <= 512 && address + width <= 513);
        for (Lamp other : lamps) {
            argument(other.id != Kit.id(maker, rest));
        }
        state(lamps.size() < 24);
        Lamp lamp = new Lamp();
        lamp.id = Kit.id(maker, rest);
        lamp.width = width;
        lamp.modes = modes;
        lamp.address = address;
        lamps.add(lamp);
        return lamps.size() - 1;
    }

    int feed(int... numbers) {
        state(tape.size() <= 500);
        for (int number : numbers) {
            for (int shift = 24; shift >= 0; shift -= 8) {
                tape.add(number >> shift & 255);
            }
        }
        return tape.size();
    }

    int end(int n) {
        argument(n >= 0 && n <= tape.size());
        tape = new ArrayList<>(tape.subList(0, n));
        return 0;
    }

    int send() {
        int[] bytes = ints(tape);
        tape.clear();
        run(bytes.length > 513 ? Arrays.copyOf(bytes, 513) : bytes);
        return answer.length;
    }

    int answer(int k) {
        index(k >= 0 && k < answer.length);
        return answer[k];
    }

    int ask(int maker, long rest, int part, int kind, int matter) {
        argument(maker >= 0 && maker <= 65535 && rest >= 0 && rest <= 4294967295L);
        argument(part >= 0 && part <= 65535 && kind >= 0 && kind <= 255 && matter >= 0 && matter <= 65535);
        int[] data = ints(tape);
        tape.clear();
        data = data.length > 231 ? Arrays.copyOf(data, 231) : data;
        question(Kit.id(maker, rest), part, kind, matter, data);
        if (answer.length == 0) {
            return -1;
        }
        return isReplyOf(Kit.id(maker, rest)) ? answer[16] : -2;
    }

    int spoil(int k, int mask) {
        argument(k >= 0 && k <= 300);
        spoils.add(new int[] {k, mask & 255});
        if (spoils.size() > 16) {
            spoils.remove(0);
        }
        return 0;
    }

    int frames() {
        return frames;
    }

    long about(int number, int what) {
        Lamp lamp = lampAt(number);
        index(what >= 0 && what <= 10);
        boolean dark = lamp.lit.subSet(frames - 19, frames + 1).isEmpty();
        long[] all = {lamp.id / 4294967296L, lamp.footprint(), lamp.mode, lamp.modes, lamp.address, lamp.silent ? 1 : 0,
            lamp.shows ? 1 : 0, dark ? 1 : 0, lamp.waiting.size(), lamp.label.size(), lamp.orders};
        return all[what];
    }

    long rest(int number) {
        return lampAt(number).id % 4294967296L;
    }

    int level(int number, int k) {
        Lamp lamp = lampAt(number);
        index(k >= 0 && k < lamp.footprint());
        return lamp.levels[k + 1];
    }

    int label(int number, int k) {
        Lamp lamp = lampAt(number);
        index(k >= 0 && k < lamp.label.size());
        return lamp.label.get(k);
    }

    int silence(int number, boolean on) {
        Lamp lamp = lampAt(number);
        boolean was = lamp.silent;
        lamp.silent = on;
        return was ? 1 : 0;
    }

    int search() {
        searching = true;
        steps = 0;
        found.clear();
        pile.clear();
        pile.add(new long[] {0, 281474976710654L});
        question(Kit.TO_ALL, 0, 16, 3);
        return 1;
    }

    int step(int n) {
        state(searching);
        argument(n >= 1 && n <= 1000);
        for (int k = 0; k < n && !pile.isEmpty(); k++) {
            steps++;
            List<long[]> then = oneStep(pile.remove(pile.size() - 1));
            pile.addAll(then);
        }
        return pile.size();
    }

    int found() {
        return found.size();
    }

    long id(int i) {
        index(i >= 0 && i < found.size());
        return found.get(i);
    }

    long branch(int what) {
        index(what == 2 || (what == 0 || what == 1) && !pile.isEmpty());
        return what == 2 ? steps : pile.get(pile.size() - 1)[what];
    }

    private List<long[]> oneStep(long[] branch) {
        if (branch[0] == branch[1]) {
            boolean none = branch[0] % 4294967296L == 4294967295L;
            return !none && tried(branch[0]).equals("doubt") ? List.of(branch) : List.of();
        }
        question(Kit.TO_ALL, 0, 16, 1, Kit.joined(Kit.idBytes(branch[0]), Kit.idBytes(branch[1])));
        if (answer.length == 0) {
            return List.of();
        }
        long id = echoed();
        if (id >= branch[0] && id <= branch[1] && id % 4294967296L != 4294967295L && !found.contains(id)
                && !tried(id).equals("absent")) {
            return List.of(branch);
        }
        long middle = branch[0] + (branch[1] - branch[0]) / 2;
        return List.of(new long[] {middle + 1, branch[1]}, new long[] {branch[0], middle});
    }

    private long echoed() {
        if (answer.length != 24) {
            return -1;
        }
        long id = 0;
        for (int k = 8; k < 20; k += 2) {
            id = id * 256 + (answer[k] & 85) + (answer[k + 1] & 170);
        }
        return Arrays.equals(answer, Kit.echo(id)) ? id : -1;
    }

    private String tried(long id) {
        question(id, 0, 16, 2);
        if (answer.length == 0) {
            return "absent";
        }
        if (isReplyOf(id) && answer[20] == 17 && number(answer, 21, 2) == 2 && answer[16] == 0) {
            if (!found.contains(id)) {
                found.add(id);
            }
            return "found";
        }
        question(id, 0, 16, 3);
        return "doubt";
    }

    private void question(long to, int part, int group, int matter, int... data) {
        asked++;
        run(Kit.packet(to, Kit.SEARCHER, Kit.head(asked % 256, 1, 0, part, group, matter), data));
    }

    private boolean isReplyOf(long id) {
        return isPacket(answer) && number(answer, 9, 6) == id && number(answer, 3, 6) == Kit.SEARCHER
                && answer[15] == asked % 256;
    }

    private static boolean isPacket(int[] b) {
        return b.length >= 26 && b.length <= 257 && b[0] == 204 && b[1] == 1 && b[2] == b.length - 2
                && b[23] == b.length - 26 && Arrays.equals(b, Kit.checked(b));
    }

    private void run(int[] frame) {
        frames++;
        answer = new int[0];
        for (Lamp lamp : lamps) {
            if (!lamp.dueFrames.isEmpty() && lamp.dueFrames.get(0) == frames) {
                lamp.dueFrames.remove(0);
                lamp.label = lamp.dueLabels.remove(0);
                lamp.waiting.add(new int[] {0, 49, 130});
            }
        }
        if (frame.length > 0 && frame[0] == 0) {
            lamps.forEach(lamp -> shine(lamp, frame));
        }
        if (isPacket(frame)) {
            lamps.forEach(lamp -> join(said(lamp, frame)));
        }
        if (answer.length > 0) {
            for (int[] spoil : spoils) {
                if (spoil[0] < answer.length) {
                    answer[spoil[0]] ^= spoil[1];
                }
            }
            spoils.clear();
        }
    }

    private void shine(Lamp lamp, int[] frame) {
        for (int slot = 1; slot < frame.length; slot++) {
            int k = slot - lamp.address + 1;
            if (k >= 1 && k <= lamp.footprint()) {
                lamp.levels[k] = frame[slot];
            }
            if (k == 1) {
                lamp.lit.add(frames);
            }
        }
    }

    private void join(int[] bytes) {
        int[] both = Arrays.copyOf(answer, Math.max(answer.length, bytes.length));
        for (int k = 0; k < bytes.length; k++) {
            both[k] |= bytes[k];
        }
        answer = both;
    }

    private int[] said(Lamp lamp, int[] p) {
        long to = number(p, 3, 6);
        boolean call = to == Kit.TO_ALL || to == lamp.id / 4294967296L * 4294967296L + 4294967295L;
        if (!call && to != lamp.id) {
            return new int[0];
        }
        int[] data = Arrays.copyOfRange(p, 24, p.length - 2);
        int matter = (int) number(p, 21, 2);
        int[] head = {p[15], 0, 0, (int) number(p, 18, 2), p[20] + 1, matter};
        int[] said = null;
        if (p[20] == 16) {
            if (matter == 1 && data.length == 12) {
                boolean in = lamp.id >= number(data, 0, 6) && lamp.id <= number(data, 6, 6);
                return in && !lamp.silent ? Kit.echo(lamp.id) : new int[0];
            }
            if ((matter == 2 || matter == 3) && data.length == 0) {
                lamp.silent = matter == 2;
                said = new int[] {0, 0};
            }
        } else if (p[20] == 32 && !call) {
            lamp.orders++;
            said = got(lamp, head, matter, data);
        } else if (p[20] == 48) {
            lamp.orders += call ? 0 : 1;
            said = set(lamp, head, matter, data, call);
        }
        if (said == null || call) {
            return new int[0];
        }
        head[2] = lamp.waiting.size();
        return Kit.packet(number(p, 9, 6), lamp.id, head, said);
    }

    private static int[] refused(int[] head, int reason) {
        head[1] = 2;
        return new int[] {0, reason};
    }

    private static boolean known(int matter) {
        return List.of(80, 96, 128, 130, 224, 240, 4096, 32).contains(matter);
    }

    private int[] got(Lamp lamp, int[] head, int matter, int[] data) {
        if (head[3] != 0) {
            return refused(head, 9);
        } else if (!known(matter)) {
            return refused(head, 0);
        } else if (matter == 32 ? data.length != 1 : data.length != 0) {
            return refused(head, 1);
        }
        switch (matter) {
            case 80:
                return new int[] {0, 80, 0, 96, 0, 128, 0, 130, 0, 224, 0, 240, 16, 0, 0, 32};
            case 96:
                return Kit.joined(Kit.idBytes(lamp.id), lamp.footprint() / 256, lamp.footprint() % 256, lamp.mode,
                        lamp.modes, lamp.address / 256, lamp.address % 256, 0, 0, lamp.orders / 256 % 256,
                        lamp.orders % 256);
            case 128:
                return Kit.bytes(String.format("LAMP%08X", lamp.id % 4294967296L));
            case 130:
                return ints(lamp.label);
            case 224:
                return new int[] {lamp.mode, lamp.modes};
            case 240:
                return new int[] {lamp.address / 256, lamp.address % 256};
            case 4096:
                return new int[] {lamp.shows ? 1 : 0};
            default:
                if (!lamp.waiting.isEmpty()) {
                    int[] waited = lamp.waiting.remove(0);
                    head[1] = waited[0];
                    head[4] = waited[1];
                    head[5] = waited[2];
                }
                return new int[0];
        }
    }

    private int[] set(Lamp lamp, int[] head, int matter, int[] data, boolean call) {
        if (head[3] != 0 && head[3] != 65535) {
            return refused(head, 9);
        } else if (!known(matter)) {
            return refused(head, 0);
        } else if (List.of(80, 96, 128, 32).contains(matter)) {
            return refused(head, 5);
        } else if (matter == 130 ? data.length > 32 : data.length != (matter == 240 ? 2 : 1)) {
            return refused(head, 1);
        }
        if (matter == 130) {
            return label(lamp, head, data, call);
        }
        int value = (int) number(data, 0, data.length);
        if (matter == 224 && value >= 1 && value <= lamp.modes && lamp.address + lamp.width * value <= 513) {
            lamp.mode = value;
        } else if (matter == 240 && value >= 1 && value + lamp.footprint() <= 513) {
            lamp.address = value;
        } else if (matter == 4096 && value <= 1) {
            lamp.shows = value == 1;
        } else {
            return refused(head, 6);
        }
        return new int[0];
    }

    private int[] label(Lamp lamp, int[] head, int[] data, boolean call) {
        List<Integer> label = new ArrayList<>();
        for (int b : data) {
            if (b < 32 || b > 126) {
                return refused(head, 6);
            }
            label.add(b);
        }
        if (call) {
            lamp.label = label;
            return new int[0];
        }
        if (lamp.waiting.size() + lamp.dueFrames.size() == 4) {
            return refused(head, 7);
        }
        lamp.dueFrames.add(frames + 3);
        lamp.dueLabels.add(label);
        head[1] = 1;
        return new int[] {0, 3};
    }

    private Lamp lampAt(int number) {
        index(number >= 0 && number < lamps.size());
        return lamps.get(number);
    }

    private static long number(int[] bytes, int from, int size) {
        long number = 0;
        for (int k = from; k < from + size; k++) {
            number = number * 256 + bytes[k];
        }
        return number;
    }

    private static int[] ints(List<Integer> list) {
        return list.stream().mapToInt(Integer::intValue).toArray();
    }

    private static void argument(boolean holds) {
        if (!holds) {
            throw new IllegalArgumentException();
        }
    }

    private static void state(boolean holds) {
        if (!holds) {
            throw new IllegalStateException();
        }
    }

    private static void index(boolean holds) {
        if (!holds) {
            throw new IndexOutOfBoundsException();
        }
    }
}
