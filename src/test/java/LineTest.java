/** Promises 3, 4, 5, 6, 9, 12: the tape, frames, levels, darkness, and which packets are right. */
public final class LineTest {
    private static final Check C = new Check("LineTest");

    public static void main(String[] args) {
        tape();
        highestByteFirst();
        levels();
        levelsPastTheFrame();
        longFrame();
        dark();
        darkByFirstSlot();
        rightPackets();
        wrongPackets();
        latestAnswer();
        C.finish();
    }

    private static void tape() {
        LampLine x = new LampLine();
        for (int k = 1; k <= 26; k++) {
            C.due("feed", x.feed(1, 2, 3, 4, 5), 20 * k);
        }
        C.state("feed", () -> x.feed(1, 2, 3, 4, 5));
        C.argument("end(521)", () -> x.end(521));
        C.argument("end(-1)", () -> x.end(-1));
        x.end(520);
        x.end(501);
        C.state("feed behind 501", () -> x.feed(1, 2, 3, 4, 5));
        C.argument("end(502)", () -> x.end(502));
        x.end(500);
        C.due("feed behind 500", x.feed(1, 2, 3, 4, 5), 520);
        x.end(3);
        C.due("feed behind 3", x.feed(1, 2, 3, 4, 5), 23);
        C.due("send()", x.send(), 0);
        C.argument("end(1) behind send", () -> x.end(1));
        C.due("feed behind send", x.feed(1, 2, 3, 4, 5), 20);
        C.due("frames()", x.frames(), 1);
    }

    private static void highestByteFirst() {
        LampLine x = new LampLine();
        x.lamp(1, 1, 20, 1, 1);
        x.feed(0x00010203, 0x04050607, 0x08090A0B, 0x8C8D8E8F, 0xF0F1F2F3);
        x.feed(0xF4FFFFFF, 0, 0, 0, 0);
        x.end(21);
        x.send();
        int[] due = {1, 2, 3, 4, 5, 6, 7, 8, 9, 10, 11, 140, 141, 142, 143, 240, 241, 242, 243, 244};
        for (int k = 0; k < due.length; k++) {
            C.due("level(0, " + k + ")", x.level(0, k), due[k]);
        }
    }

    private static void levels() {
        LampLine x = new LampLine();
        x.lamp(1, 1, 2, 3, 3);
        x.lamp(1, 2, 3, 1, 1);
        C.due("level(0, 0) at first", x.level(0, 0), 0);
        C.index("level(0, 2)", () -> x.level(0, 2));
        C.index("level(0, -1)", () -> x.level(0, -1));
        C.index("level(2, 0)", () -> x.level(2, 0));
        C.index("level(-1, 0)", () -> x.level(-1, 0));
        C.due("send", Kit.send(x, 0, 11, 12, 13, 14, 15, 16, 17, 18, 19), 0);
        C.due("level(0, 0)", x.level(0, 0), 13);
        C.due("level(0, 1)", x.level(0, 1), 14);
        C.due("level(1, 0)", x.level(1, 0), 11);
        C.due("level(1, 2)", x.level(1, 2), 13);
        Kit.ask(x, 1, 1, Kit.SET, 224, 3);
        C.due("level(0, 1) in mode 3", x.level(0, 1), 14);
        C.due("level(0, 2) in mode 3", x.level(0, 2), 0);
        C.index("level(0, 6)", () -> x.level(0, 6));
        Kit.send(x, 0, 21, 22, 23, 24, 25, 26, 27, 28, 29);
        C.due("level(0, 5)", x.level(0, 5), 28);
        Kit.ask(x, 1, 1, Kit.SET, 224, 1);
        C.index("level(0, 5) in mode 1", () -> x.level(0, 5));
        Kit.send(x, 0, 31, 32, 33, 34, 35, 36, 37, 38, 39);
        Kit.ask(x, 1, 1, Kit.SET, 224, 3);
        C.due("level(0, 1) as set", x.level(0, 1), 34);
        C.due("level(0, 5) stayed", x.level(0, 5), 28);
        Kit.ask(x, 1, 1, Kit.SET, 240, 0, 1);
        C.due("level(0, 0) stays with a new address", x.level(0, 0), 33);
        Kit.send(x, 0, 41, 42);
        C.due("level(0, 0) at the new address", x.level(0, 0), 41);
        C.due("level(0, 2) stays", x.level(0, 2), 25);
    }

    private static void levelsPastTheFrame() {
        LampLine x = new LampLine();
        x.lamp(1, 1, 3, 1, 2);
        Kit.send(x, 0, 1, 2, 3, 4);
        Kit.send(x, 0, 7, 8);
        C.due("level(0, 0)", x.level(0, 0), 8);
        C.due("level(0, 1) stays", x.level(0, 1), 3);
        C.due("level(0, 2) stays", x.level(0, 2), 4);
        Kit.send(x, 0);
        Kit.send(x, 1, 9, 9, 9, 9);
        Kit.send(x, 205, 9, 9, 9, 9);
        C.due("level(0, 0) stays", x.level(0, 0), 8);
        C.due("frames()", x.frames(), 5);
    }

    private static void longFrame() {
        LampLine x = new LampLine();
        x.lamp(1, 1, 64, 8, 1);
        x.lamp(1, 2, 1, 1, 512);
        Kit.ask(x, 1, 1, Kit.SET, 224, 8);
        int[] bytes = new int[520];
        for (int k = 1; k < 520; k++) {
            bytes[k] = k % 251 + 1;
        }
        C.due("send", Kit.send(x, bytes), 0);
        for (int k = 0; k < 512; k += 7) {
            C.due("level(0, " + k + ")", x.level(0, k), (k + 1) % 251 + 1);
        }
        C.index("level(0, 512)", () -> x.level(0, 512));
        C.due("level(1, 0)", x.level(1, 0), 512 % 251 + 1);
    }

    private static void dark() {
        LampLine x = new LampLine();
        Kit.send(x, 0, 1, 1, 1);
        x.lamp(1, 1, 1, 1, 2);
        C.due("dark, as it was not there then", x.about(0, 7), 1);
        Kit.send(x, 0, 5);
        C.due("dark without its slot", x.about(0, 7), 1);
        Kit.send(x, 0, 5, 0);
        for (int k = 0; k < 20; k++) {
            C.due("not dark " + k + " frames later", x.about(0, 7), 0);
            if (k % 2 == 0) {
                Kit.send(x, 0, 5);
            } else {
                Kit.ask(x, 1, 1, Kit.GET, 240);
            }
        }
        C.due("dark 20 frames later", x.about(0, 7), 1);
        Kit.send(x, 0, 5, 5);
        C.due("not dark again", x.about(0, 7), 0);
    }

    private static void darkByFirstSlot() {
        LampLine x = new LampLine();
        x.lamp(1, 1, 1, 1, 2);
        Kit.send(x, 0, 5, 5);
        Kit.ask(x, 1, 1, Kit.SET, 240, 1, 0);
        C.due("its slot was there as it was then", x.about(0, 7), 0);
        LampLine y = new LampLine();
        y.lamp(1, 1, 1, 1, 9);
        Kit.send(y, 0, 5, 5);
        Kit.ask(y, 1, 1, Kit.SET, 240, 0, 1);
        C.due("its slot was not there as it was then", y.about(0, 7), 1);
    }

    private static void rightPackets() {
        LampLine x = new LampLine();
        x.lamp(7, 1, 1, 1, 1);
        int[] get = Kit.packet(Kit.id(7, 1), Kit.id(4660, 0xFEDCBA98L), Kit.head(200, 77, 99, 0, 32, 240));
        C.due("send", Kit.send(x, get), 28);
        C.due("the reply", Kit.answer(x), Kit.packet(Kit.id(4660, 0xFEDCBA98L), Kit.id(7, 1),
                Kit.head(200, 0, 0, 0, 33, 240), 0, 1));
        int[] longest = Kit.packet(Kit.id(7, 1), 5, Kit.head(9, 1, 0, 0, 32, 240), Kit.same(255, 231));
        C.due("the longest packet", Kit.send(x, longest), 28);
        C.due("its reply", Kit.answer(x), Kit.packet(5, Kit.id(7, 1), Kit.head(9, 2, 0, 0, 33, 240), 0, 1));
        C.due("to another ID", Kit.send(x, Kit.packet(Kit.id(7, 2), 5, Kit.head(9, 1, 0, 0, 32, 240))), 0);
        int[] other = {0, 15, 17, 31, 33, 47, 49, 64, 255};
        for (int group : other) {
            C.due("CLASS " + group, Kit.send(x, Kit.packet(Kit.id(7, 1), 5, Kit.head(9, 1, 0, 0, group, 240))), 0);
        }
        C.due("orders by ID", x.about(0, 10), 2);
    }

    private static void wrongPackets() {
        LampLine x = new LampLine();
        x.lamp(7, 1, 1, 1, 1);
        int[] right = Kit.packet(Kit.id(7, 1), Kit.SEARCHER, Kit.head(1, 1, 0, 0, 32, 240));
        C.due("right", Kit.send(x, right), 28);
        for (int k = 0; k < right.length; k++) {
            C.due("byte " + k + " is another", Kit.send(x, Kit.with(right, k, right[k] ^ 1)), 0);
        }
        C.due("START 203", Kit.send(x, Kit.checked(Kit.with(right, 0, 203))), 0);
        C.due("second byte 2", Kit.send(x, Kit.checked(Kit.with(right, 1, 2))), 0);
        C.due("LENGTH 23", Kit.send(x, Kit.checked(Kit.with(right, 2, 23))), 0);
        C.due("LENGTH 25", Kit.send(x, Kit.checked(Kit.with(right, 2, 25))), 0);
        C.due("SIZE 1", Kit.send(x, Kit.checked(Kit.with(right, 23, 1))), 0);
        C.due("a byte behind", Kit.send(x, Kit.joined(right, 0)), 0);
        C.due("a byte less", Kit.send(x, java.util.Arrays.copyOf(right, right.length - 1)), 0);
        C.due("no bytes", Kit.send(x), 0);
        C.due("204 alone", Kit.send(x, 204), 0);
        C.due("right again", Kit.send(x, right), 28);
        C.due("orders by ID", x.about(0, 10), 2);
    }

    private static void latestAnswer() {
        LampLine x = new LampLine();
        x.lamp(7, 1, 1, 1, 1);
        Kit.ask(x, 7, 1, Kit.GET, 240);
        C.due("answer(0)", x.answer(0), 204);
        C.due("answer(27)", x.answer(27), Kit.answer(x)[27]);
        C.index("answer(28)", () -> x.answer(28));
        C.index("answer(-1)", () -> x.answer(-1));
        C.index("answer(least)", () -> x.answer(Integer.MIN_VALUE));
        Kit.send(x, 0, 1);
        C.index("answer(0) behind NOTHING", () -> x.answer(0));
        x.search();
        C.index("answer(0) behind search", () -> x.answer(0));
        x.step(1);
        C.due("the answer of a step is that of its last frame", x.answer(20), 17);
    }
}
