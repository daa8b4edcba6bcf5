/** Lamps, their SLOTS, LEVELS and darkness, and promises 1, 2, 10 to 14: a test for each sentence of a boundary. */
public final class EdgeLampTest {
    private static final Check C = new Check("EdgeLampTest");
    private static final int LEAST = Integer.MIN_VALUE;
    private static final int GREATEST = Integer.MAX_VALUE;

    public static void main(String[] args) {
        C.sentence("A line without lamps, an empty tape, no search.", EdgeLampTest::newObject);
        C.sentence("An object is used for at most 512 calls after it has been made", EdgeLampTest::fiveHundredTwelveCalls);
        lampPromise();
        slotsAndLevels();
        darkness();
        lookingPromises();
        C.finish();
    }

    private static void lampPromise() {
        C.sentence("A lamp more: its number (from 0).", EdgeLampTest::numbers);
        C.sentence("IllegalStateException: there are 24.", EdgeLampTest::twentyFour);
        C.sentence("a MAKER (16 bits, 1 .. 32767)", EdgeLampTest::makers);
        C.sentence("a rest of 32 bits (0 .. 4294967294)", EdgeLampTest::rests);
        C.sentence("no two alike", EdgeLampTest::noTwoAlike);
        C.sentence("width 1 .. 64", EdgeLampTest::widths);
        C.sentence("modes 1 .. 8", EdgeLampTest::modes);
        C.sentence("address (1 .. 512, and its width fits)", EdgeLampTest::addresses);
        C.sentence("address (1 .. 512, and its width fits)", EdgeLampTest::widthFits);
        C.sentence("They are SILENT or not (not, at first).", EdgeLampTest::notSilentAtFirst);
    }

    private static void slotsAndLevels() {
        C.sentence("In MODE m (of MODES, 1 at first) a lamp has FOOTPRINT SLOTS, its WIDTH times m, from its ADDRESS on.",
                EdgeLampTest::footprints);
        C.sentence("each lamp takes for its k-th SLOT the level that the frame has for it, as its k-th level",
                EdgeLampTest::frameEndsAmongSlots);
        C.sentence("others stay (0 at first; those beyond its FOOTPRINT, too).", EdgeLampTest::zeroAtFirst);
        C.sentence("others stay (0 at first; those beyond its FOOTPRINT, too).", EdgeLampTest::beyondTheFootprint);
    }

    private static void darkness() {
        String words = "A lamp is DARK if none of the latest 20 frames was LEVELS with its first SLOT (as it was then).";
        C.sentence(words, EdgeLampTest::darkAtFirst);
        C.sentence(words, EdgeLampTest::darkBehindTwentyFrames);
        C.sentence(words, EdgeLampTest::firstSlotAlone);
        C.sentence(words, EdgeLampTest::firstSlotAsItWasThen);
        C.sentence(words, EdgeLampTest::litAgain);
    }

    private static void lookingPromises() {
        C.sentence("10 GETS and SETS by ID. IndexOutOfBoundsException.", EdgeLampTest::aboutEdges);
        C.sentence("The rest of its ID. IndexOutOfBoundsException.", EdgeLampTest::restEdges);
        C.sentence("The level of its k-th SLOT (from 0). IndexOutOfBoundsException.", EdgeLampTest::levelEdges);
        C.sentence("Byte k of its LABEL. IndexOutOfBoundsException.", EdgeLampTest::labelEdges);
        C.sentence("A lamp is SILENT, or not, by hand: what it was (1, 0).", EdgeLampTest::silenceByHand);
        C.sentence("what it was (1, 0). IndexOutOfBoundsException.", EdgeLampTest::silenceEdges);
    }

    private static void newObject() {
        LampLine x = new LampLine();
        C.index("no lamp: about", () -> x.about(0, 0));
        C.index("no lamp: rest", () -> x.rest(0));
        C.index("no lamp: level", () -> x.level(0, 0));
        C.index("no lamp: label", () -> x.label(0, 0));
        C.index("no lamp: silence", () -> x.silence(0, false));
        C.argument("an empty tape", () -> x.end(1));
        x.end(0);
        C.state("no search: step", () -> x.step(1));
        C.index("no search: branch(0)", () -> x.branch(0));
        C.index("no search: branch(1)", () -> x.branch(1));
        C.index("no search: id", () -> x.id(0));
        C.due("no search: found()", x.found(), 0);
        C.index("no ANSWER", () -> x.answer(0));
        C.due("no frame", x.frames(), 0);
        C.due("the first lamp", x.lamp(1, 1, 1, 1, 1), 0);
        C.due("the tape's first bytes", x.feed(0, 0, 0, 0, 0), 20);
        // Objects have nothing in common.
        LampLine y = new LampLine();
        C.index("another object has no lamp", () -> y.rest(0));
        C.argument("another object has an empty tape", () -> y.end(1));
    }

    private static void fiveHundredTwelveCalls() {
        LampLine x = new LampLine();
        x.lamp(7, 1, 1, 1, 1);
        for (int call = 2; call <= 510; call++) {
            x.ask(7, 1, 0, Kit.GET, 96);
        }
        C.due("the 511th call", x.about(0, 10), 509);
        C.due("the 512th call", x.answer(39), 509 % 256);
    }

    private static void numbers() {
        LampLine x = new LampLine();
        C.due("the first", x.lamp(1, 0, 1, 1, 1), 0);
        C.argument("a refused one", () -> x.lamp(1, 0, 1, 1, 1));
        C.argument("a refused one", () -> x.lamp(0, 1, 1, 1, 1));
        C.due("has no number", x.lamp(1, 1, 1, 1, 1), 1);
    }

    private static void twentyFour() {
        LampLine x = new LampLine();
        for (int k = 0; k < 24; k++) {
            C.due("lamp " + k, x.lamp(9, k, 1, 1, 1), k);
        }
        C.state("a 25th", () -> x.lamp(9, 24, 1, 1, 1));
        C.state("a 25th again", () -> x.lamp(8, 24, 1, 1, 1));
        C.due("the 24th is there", x.rest(23), 23);
        C.due("and speaks", Kit.ask(x, 9, 23, Kit.GET, 80), 0);
        C.index("the 25th is not", () -> x.rest(24));
        C.due("and does not speak", Kit.ask(x, 9, 24, Kit.GET, 80), LampLine.NONE);
    }

    private static void makers() {
        LampLine x = new LampLine();
        int[] wrong = {LEAST, -1, 0, 32768, 65535, 65536, 65537, GREATEST};
        for (int maker : wrong) {
            C.argument("maker " + maker, () -> x.lamp(maker, 1, 1, 1, 1));
        }
        C.due("maker 1", x.lamp(1, 1, 1, 1, 1), 0);
        C.due("maker 32767", x.lamp(32767, 1, 1, 1, 1), 1);
        C.due("about(0, 0)", x.about(0, 0), 1);
        C.due("about(1, 0)", x.about(1, 0), 32767);
    }

    private static void rests() {
        LampLine x = new LampLine();
        long[] wrong = {Long.MIN_VALUE, -4294967295L, -1, 4294967295L, 4294967296L, 4294967297L, Long.MAX_VALUE};
        for (long rest : wrong) {
            C.argument("rest " + rest, () -> x.lamp(1, rest, 1, 1, 1));
        }
        C.due("rest 0", x.lamp(1, 0, 1, 1, 1), 0);
        C.due("rest 4294967294", x.lamp(1, 4294967294L, 1, 1, 1), 1);
        C.due("rest 2147483648", x.lamp(1, 2147483648L, 1, 1, 1), 2);
        C.due("rest(0)", x.rest(0), 0);
        C.due("rest(1)", x.rest(1), 4294967294L);
        C.due("rest(2)", x.rest(2), 2147483648L);
    }

    private static void noTwoAlike() {
        LampLine x = new LampLine();
        x.lamp(1, 0, 3, 2, 5);
        x.lamp(2, 7, 3, 2, 5);
        C.argument("the first one's ID", () -> x.lamp(1, 0, 1, 1, 1));
        C.argument("the latest one's ID", () -> x.lamp(2, 7, 3, 2, 5));
        C.due("the lamp that was there stays: ADDRESS", x.about(0, 4), 5);
        C.due("the lamp that was there stays: MODES", x.about(0, 3), 2);
        C.due("the same MAKER, another rest", x.lamp(1, 7, 1, 1, 1), 2);
        C.due("the same rest, another MAKER", x.lamp(2, 0, 1, 1, 1), 3);
    }

    private static void widths() {
        LampLine x = new LampLine();
        int[] wrong = {LEAST, -1, 0, 65, 512, GREATEST};
        for (int width : wrong) {
            C.argument("width " + width, () -> x.lamp(1, 1, width, 1, 1));
        }
        C.due("width 1", x.lamp(1, 1, 1, 1, 1), 0);
        C.due("width 64", x.lamp(1, 64, 64, 1, 1), 1);
        C.due("FOOTPRINT of width 64", x.about(1, 1), 64);
    }

    private static void modes() {
        LampLine x = new LampLine();
        int[] wrong = {LEAST, -1, 0, 9, 256, GREATEST};
        for (int modes : wrong) {
            C.argument("modes " + modes, () -> x.lamp(1, 1, 1, modes, 1));
        }
        C.due("modes 1", x.lamp(1, 1, 1, 1, 1), 0);
        C.due("modes 8", x.lamp(1, 8, 1, 8, 1), 1);
        C.due("about(1, 3)", x.about(1, 3), 8);
    }

    private static void addresses() {
        LampLine x = new LampLine();
        int[] wrong = {LEAST, -1, 0, 513, 65537, GREATEST};
        for (int address : wrong) {
            C.argument("address " + address, () -> x.lamp(1, 1, 1, 1, address));
            C.argument("address " + address + " of 64", () -> x.lamp(1, 1, 64, 1, address));
        }
        C.due("address 1", x.lamp(1, 1, 1, 1, 1), 0);
        C.due("address 512", x.lamp(1, 2, 1, 1, 512), 1);
        C.due("about(1, 4)", x.about(1, 4), 512);
    }

    private static void widthFits() {
        LampLine x = new LampLine();
        C.argument("width 2 at 512", () -> x.lamp(1, 1, 2, 1, 512));
        C.argument("width 64 at 450", () -> x.lamp(1, 1, 64, 1, 450));
        C.argument("width 64 at 512", () -> x.lamp(1, 1, 64, 1, 512));
        C.due("width 2 at 511", x.lamp(1, 1, 2, 1, 511), 0);
        C.due("width 64 at 449", x.lamp(1, 2, 64, 1, 449), 1);
        // Only the width must fit, not all of the modes.
        C.due("width 64 at 449, 8 modes", x.lamp(1, 3, 64, 8, 449), 2);
    }

    private static void notSilentAtFirst() {
        LampLine x = new LampLine();
        x.lamp(1, 1, 1, 1, 1);
        C.due("at first", x.about(0, 5), 0);
        Kit.ask(x, 65535, Kit.ALL_RESTS, Kit.SEARCH, 2);
        C.due("by a CALL", x.about(0, 5), 1);
        x.lamp(1, 2, 1, 1, 1);
        C.due("one that comes later", x.about(1, 5), 0);
    }

    private static void footprints() {
        LampLine x = new LampLine();
        x.lamp(1, 1, 64, 8, 1);
        C.due("MODE at first", x.about(0, 2), 1);
        for (int mode = 8; mode >= 1; mode--) {
            int slots = 64 * mode;
            Kit.ask(x, 1, 1, Kit.SET, 224, mode);
            C.due("FOOTPRINT in MODE " + mode, x.about(0, 1), slots);
            C.due("its last SLOT", x.level(0, slots - 1), 0);
            C.index("behind its last SLOT", () -> x.level(0, slots));
        }
        Kit.ask(x, 1, 1, Kit.SET, 224, 8);
        int[] bytes = Kit.same(7, 513);
        bytes[0] = 0;
        bytes[512] = 255;
        Kit.send(x, bytes);
        C.due("SLOT 512 of 512", x.level(0, 511), 255);
        LampLine y = new LampLine();
        y.lamp(1, 1, 1, 1, 512);
        C.due("the least FOOTPRINT", y.about(0, 1), 1);
        Kit.send(y, bytes);
        C.due("its SLOT", y.level(0, 0), 255);
    }

    private static void frameEndsAmongSlots() {
        for (int size = 1; size <= 9; size++) {
            LampLine x = new LampLine();
            x.lamp(1, 1, 4, 1, 3);
            Kit.send(x, 0, 11, 12, 13, 14, 15, 16, 17, 18);
            int[] bytes = Kit.same(0, size);
            for (int k = 1; k < size; k++) {
                bytes[k] = 250 - k;
            }
            Kit.send(x, bytes);
            for (int k = 0; k < 4; k++) {
                C.due("level(0, " + k + ") of " + size, x.level(0, k), 3 + k < size ? 247 - k : 13 + k);
            }
        }
    }

    private static void zeroAtFirst() {
        LampLine x = new LampLine();
        Kit.send(x, 0, 9, 9, 9, 9, 9, 9, 9, 9);
        x.lamp(1, 1, 2, 4, 1);
        Kit.ask(x, 1, 1, Kit.SET, 224, 4);
        for (int k = 0; k < 8; k++) {
            C.due("level(0, " + k + ")", x.level(0, k), 0);
        }
        Kit.send(x, 0, 255, 1, 0);
        C.due("the greatest level", x.level(0, 0), 255);
        Kit.send(x, 0, 0);
        C.due("level 0 is taken", x.level(0, 0), 0);
        C.due("level(0, 1) stays", x.level(0, 1), 1);
    }

    private static void beyondTheFootprint() {
        LampLine x = new LampLine();
        x.lamp(1, 1, 2, 2, 1);
        Kit.ask(x, 1, 1, Kit.SET, 224, 2);
        Kit.send(x, 0, 1, 2, 3, 4, 5);
        Kit.ask(x, 1, 1, Kit.SET, 224, 1);
        Kit.send(x, 0, 11, 12, 13, 14, 15);
        C.index("level(0, 2) in MODE 1", () -> x.level(0, 2));
        Kit.ask(x, 1, 1, Kit.SET, 224, 2);
        int[] due = {11, 12, 3, 4};
        for (int k = 0; k < 4; k++) {
            C.due("level(0, " + k + ")", x.level(0, k), due[k]);
        }
        Kit.ask(x, 1, 1, Kit.SET, 240, 0, 100);
        for (int k = 0; k < 4; k++) {
            C.due("level(0, " + k + ") at a new ADDRESS", x.level(0, k), due[k]);
        }
    }

    private static void darkAtFirst() {
        LampLine x = new LampLine();
        Kit.send(x, 0, 9);
        x.lamp(1, 1, 1, 1, 1);
        C.due("a lamp that has had no frame", x.about(0, 7), 1);
        Kit.send(x);
        C.due("behind nothing", x.about(0, 7), 1);
        Kit.send(x, 1, 9);
        C.due("behind another START", x.about(0, 7), 1);
        Kit.send(x, 0);
        C.due("behind LEVELS of no SLOT", x.about(0, 7), 1);
        Kit.send(x, 0, 0);
        C.due("behind LEVELS", x.about(0, 7), 0);
    }

    private static void darkBehindTwentyFrames() {
        for (int kind = 0; kind < 4; kind++) {
            LampLine x = new LampLine();
            x.lamp(1, 1, 1, 1, 2);
            Kit.send(x, 0, 9, 9);
            for (int later = 1; later <= 22; later++) {
                otherFrame(x, kind);
                C.due(later + " frames of kind " + kind + " later", x.about(0, 7), later < 20 ? 0 : 1);
                C.index("no frame by a refused call", () -> x.about(0, 11));
            }
        }
    }

    /** A frame that is not LEVELS with SLOT 2. */
    private static void otherFrame(LampLine x, int kind) {
        switch (kind) {
            case 0: Kit.send(x); break;
            case 1: Kit.send(x, 0, 9); break;
            case 2: Kit.ask(x, 1, 1, Kit.GET, 80); break;
            default: x.search(); break;
        }
    }

    private static void firstSlotAlone() {
        LampLine x = new LampLine();
        x.lamp(1, 1, 4, 1, 3);
        Kit.send(x, 0, 9, 9);
        C.due("a frame up to the SLOT before", x.about(0, 7), 1);
        Kit.send(x, 0, 9, 9, 0);
        C.due("a frame up to its first SLOT", x.about(0, 7), 0);
        LampLine y = new LampLine();
        y.lamp(1, 1, 1, 1, 512);
        Kit.send(y, new int[512]);
        C.due("a frame up to SLOT 511", y.about(0, 7), 1);
        Kit.send(y, new int[513]);
        C.due("a frame up to SLOT 512", y.about(0, 7), 0);
    }

    private static void firstSlotAsItWasThen() {
        LampLine x = new LampLine();
        x.lamp(1, 1, 1, 1, 2);
        Kit.send(x, 0, 9, 9);
        Kit.ask(x, 1, 1, Kit.SET, 240, 1, 0);
        C.due("the frame had its SLOT then, it has not now", x.about(0, 7), 0);
        LampLine y = new LampLine();
        y.lamp(1, 1, 1, 1, 256);
        Kit.send(y, 0, 9, 9);
        Kit.ask(y, 1, 1, Kit.SET, 240, 0, 2);
        C.due("the frame has its SLOT now, it had not then", y.about(0, 7), 1);
    }

    private static void litAgain() {
        LampLine x = new LampLine();
        x.lamp(1, 1, 1, 1, 1);
        x.lamp(1, 2, 1, 1, 2);
        Kit.send(x, 0, 9, 9);
        for (int k = 0; k < 19; k++) {
            Kit.send(x);
        }
        Kit.send(x, 0, 9);
        C.due("the 20th frame behind was LEVELS with it", x.about(0, 7), 0);
        C.due("but not with the other lamp's", x.about(1, 7), 1);
        for (int k = 0; k < 19; k++) {
            Kit.send(x);
        }
        C.due("19 frames behind that", x.about(0, 7), 0);
        Kit.send(x);
        C.due("20 frames behind that", x.about(0, 7), 1);
    }

    private static LampLine two() {
        LampLine x = new LampLine();
        x.lamp(300, 0, 3, 2, 10);
        x.lamp(301, 4294967294L, 1, 1, 1);
        return x;
    }

    private static void aboutEdges() {
        LampLine x = two();
        int[] due = {300, 3, 1, 2, 10, 0, 0, 1, 0, 0, 0};
        for (int what = 0; what < due.length; what++) {
            C.due("about(0, " + what + ")", x.about(0, what), due[what]);
        }
        C.due("about(1, 0)", x.about(1, 0), 301);
        int[] wrong = {LEAST, -1, 11, 12, 256, GREATEST};
        for (int what : wrong) {
            C.index("about(0, " + what + ")", () -> x.about(0, what));
        }
        int[] nobody = {LEAST, -1, 2, 23, 24, GREATEST};
        for (int lamp : nobody) {
            C.index("about(" + lamp + ", 0)", () -> x.about(lamp, 0));
            C.index("about(" + lamp + ", 11)", () -> x.about(lamp, 11));
        }
    }

    private static void restEdges() {
        LampLine x = two();
        C.due("the least", x.rest(0), 0);
        C.due("the greatest", x.rest(1), 4294967294L);
        int[] nobody = {LEAST, -1, 2, 23, 24, GREATEST};
        for (int lamp : nobody) {
            C.index("rest(" + lamp + ")", () -> x.rest(lamp));
        }
    }

    private static void levelEdges() {
        LampLine x = two();
        Kit.send(x, 0, 1, 2, 3, 4, 5, 6, 7, 8, 9, 10, 11, 12, 13);
        C.due("level(0, 0)", x.level(0, 0), 10);
        C.due("level(0, 2)", x.level(0, 2), 12);
        int[] wrong = {LEAST, -1, 3, 4, 512, GREATEST};
        for (int k : wrong) {
            C.index("level(0, " + k + ")", () -> x.level(0, k));
        }
        C.due("level(1, 0)", x.level(1, 0), 1);
        C.index("level(1, 1)", () -> x.level(1, 1));
        int[] nobody = {LEAST, -1, 2, 23, 24, GREATEST};
        for (int lamp : nobody) {
            C.index("level(" + lamp + ", 0)", () -> x.level(lamp, 0));
        }
    }

    private static void labelEdges() {
        LampLine x = two();
        C.index("label(0, 0) of an empty one", () -> x.label(0, 0));
        Kit.ask(x, 300, Kit.ALL_RESTS, Kit.SET, 130, Kit.bytes("ABCDEFGHIJKLMNOPQRSTUVWXYZabcdef"));
        C.due("label(0, 0)", x.label(0, 0), 'A');
        C.due("label(0, 31)", x.label(0, 31), 'f');
        int[] wrong = {LEAST, -1, 32, 33, GREATEST};
        for (int k : wrong) {
            C.index("label(0, " + k + ")", () -> x.label(0, k));
        }
        C.index("label(1, 0)", () -> x.label(1, 0));
        int[] nobody = {LEAST, -1, 2, 23, 24, GREATEST};
        for (int lamp : nobody) {
            C.index("label(" + lamp + ", 0)", () -> x.label(lamp, 0));
        }
        Kit.ask(x, 300, Kit.ALL_RESTS, Kit.SET, 130, 'z');
        C.due("label(0, 0) of a shorter one", x.label(0, 0), 'z');
        C.index("label(0, 1) of a shorter one", () -> x.label(0, 1));
    }

    private static void silenceByHand() {
        LampLine x = two();
        C.due("not, and was not", x.silence(0, false), 0);
        C.due("SILENT, and was not", x.silence(0, true), 0);
        C.due("SILENT, and was", x.silence(0, true), 1);
        C.due("about(0, 5)", x.about(0, 5), 1);
        C.due("the other lamp", x.about(1, 5), 0);
        C.due("not, and was", x.silence(0, false), 1);
        C.due("about(0, 5)", x.about(0, 5), 0);
        Kit.ask(x, 300, 0, Kit.SEARCH, 2);
        C.due("what it was by a packet", x.silence(0, true), 1);
    }

    private static void silenceEdges() {
        LampLine x = two();
        int[] nobody = {LEAST, -1, 2, 23, 24, GREATEST};
        for (int lamp : nobody) {
            C.index("silence(" + lamp + ", true)", () -> x.silence(lamp, true));
        }
        C.due("silence(1, true)", x.silence(1, true), 0);
        C.due("about(0, 5)", x.about(0, 5), 0);
    }
}
