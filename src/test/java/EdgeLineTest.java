import java.util.Arrays;

/** THE LINE and promises 3 to 6, 8, 9: a test for each sentence that names a boundary case. */
public final class EdgeLineTest {
    private static final Check C = new Check("EdgeLineTest");
    private static final long LAMP = Kit.id(7, 1);
    private static final int[] GET = Kit.packet(LAMP, Kit.SEARCHER, Kit.head(1, 1, 0, 0, 32, 240));
    private static final int[] REPLY = Kit.packet(Kit.SEARCHER, LAMP, Kit.head(1, 0, 0, 0, 33, 240), 0, 10);

    public static void main(String[] args) {
        C.sentence("NUMBERS of several bytes have the highest one first.", EdgeLineTest::highestFirst);
        C.sentence("A FRAME on the line is up to 513 bytes", EdgeLineTest::longestFrame);
        C.sentence("LEVELS, byte k (1 .. 512) is that of SLOT k.", EdgeLineTest::firstAndLastSlot);
        C.sentence("All others, and no bytes at all, are nothing.", EdgeLineTest::otherStarts);
        C.sentence("204, 1, its LENGTH", EdgeLineTest::firstTwoBytes);
        C.sentence("its LENGTH (24 .. 255: bytes before the CHECK)", EdgeLineTest::lengths);
        C.sentence("a byte SIZE (LENGTH less 24)", EdgeLineTest::sizes);
        C.sentence("two bytes CHECK: the sum of all bytes before", EdgeLineTest::sums);
        C.sentence("It is right if all of this is so, and the frame ends there.", EdgeLineTest::endOfTheFrame);
        C.sentence("TO is an ID; or a maker and rest 4294967295: all lamps of that MAKER; 65535 and that: all lamps.",
                EdgeLineTest::calls);
        C.sentence("of none: NOTHING; of one: its bytes; of more: as many bytes as the longest one has",
                EdgeLineTest::noneOneAndMany);
        C.sentence("What is set to be spoiled is xored then (once).", EdgeLineTest::spoiledOnce);
        tapePromises();
        spoilPromises();
        C.finish();
    }

    private static void tapePromises() {
        C.sentence("Twenty bytes come behind the tape, each number's highest one first: how many it has.",
                EdgeLineTest::fedNumbers);
        C.sentence("IllegalStateException when there would be more than 520.", EdgeLineTest::fullTape);
        C.sentence("The tape is cut behind its first n bytes.", EdgeLineTest::cutTape);
        C.sentence("IllegalArgumentException when n is below 0, or more than it has.", EdgeLineTest::cutWrongly);
        C.sentence("The tape (its first 513 bytes) is a FRAME, and is empty then", EdgeLineTest::sentTape);
        C.sentence("how many bytes the ANSWER has.", EdgeLineTest::sizesOfAnswers);
        C.sentence("Byte k of the latest ANSWER (of any frame).", EdgeLineTest::latestAnswer);
        C.sentence("Byte k of the latest ANSWER (of any frame). IndexOutOfBoundsException.",
                EdgeLineTest::answerBytesThatAreNot);
        C.sentence("How many frames there were.", EdgeLineTest::framesThereWere);
        C.sentence("How many frames there were.", EdgeLineTest::refusedCallsAreNoFrames);
    }

    private static void spoilPromises() {
        C.sentence("Byte k of the next ANSWER that is not NOTHING", EdgeLineTest::spoilWaits);
        C.sentence("is to be xored with the lowest byte of a mask", EdgeLineTest::lowestByteOfTheMask);
        C.sentence("one that it has not: nothing", EdgeLineTest::spoiledByteThatIsNot);
        C.sentence("each call one more, 16 at most, else the first one is out", EdgeLineTest::sixteenSpoils);
        C.sentence("(k 0 .. 300;", EdgeLineTest::spoilEdges);
        C.sentence("16 at most, else the first one is out). IllegalArgumentException: k.",
                EdgeLineTest::refusedSpoilIsNone);
    }

    private static LampLine line() {
        LampLine x = new LampLine();
        x.lamp(7, 1, 1, 1, 10);
        return x;
    }

    private static void right(String call, int... frame) {
        LampLine x = line();
        C.due(call + " is right", Kit.send(x, frame), 28);
        C.due(call + " is looked at", x.about(0, 10), 1);
    }

    /** A frame that is nothing, also behind a right one, which must not be looked at again. */
    private static void nothing(String call, int... frame) {
        LampLine x = line();
        Kit.send(x, GET);
        C.due(call + " is nothing", Kit.send(x, frame), 0);
        C.due(call + " is not looked at", x.about(0, 10), 1);
        C.due(call + " is a frame all the same", x.frames(), 2);
    }

    private static void highestFirst() {
        LampLine x = new LampLine();
        x.lamp(0x0102, 0x80FFFE03L, 1, 1, 258);
        int[] get = Kit.packet(Kit.id(0x0102, 0x80FFFE03L), Kit.id(0xFF01, 0xFE02FD03L),
                Kit.head(1, 1, 0, 0, 32, 96));
        C.due("bytes of TO", Arrays.copyOfRange(get, 3, 9), 1, 2, 128, 255, 254, 3);
        C.due("GET 96", Kit.send(x, get), 42);
        C.due("its reply", Kit.answer(x), Kit.packet(Kit.id(0xFF01, 0xFE02FD03L), Kit.id(0x0102, 0x80FFFE03L),
                Kit.head(1, 0, 0, 0, 33, 96), 1, 2, 128, 255, 254, 3, 0, 1, 1, 1, 1, 2, 0, 0, 0, 1));
        int[] other = get.clone();
        other[3] = 2;
        other[4] = 1;
        C.due("an ID of changed bytes", Kit.send(x, other), 0);
    }

    private static void longestFrame() {
        for (int size = 513; size <= 520; size++) {
            LampLine x = new LampLine();
            x.lamp(1, 1, 2, 1, 511);
            int[] bytes = Kit.same(99, size);
            bytes[0] = 0;
            bytes[511] = 41;
            bytes[512] = 42;
            C.due("send of " + size, Kit.send(x, bytes), 0);
            C.due("SLOT 511", x.level(0, 0), 41);
            C.due("SLOT 512", x.level(0, 1), 42);
            C.due("one frame", x.frames(), 1);
        }
    }

    private static void firstAndLastSlot() {
        LampLine x = new LampLine();
        x.lamp(1, 1, 1, 1, 1);
        x.lamp(1, 2, 1, 1, 512);
        int[] bytes = Kit.same(5, 513);
        bytes[0] = 0;
        bytes[1] = 21;
        bytes[512] = 22;
        Kit.send(x, 0);
        C.due("START alone has no SLOT", x.level(0, 0), 0);
        Kit.send(x, 0, 20);
        C.due("two bytes have SLOT 1", x.level(0, 0), 20);
        C.due("and no more", x.level(1, 0), 0);
        Kit.send(x, Arrays.copyOf(bytes, 512));
        C.due("512 bytes have SLOT 1", x.level(0, 0), 21);
        C.due("and not SLOT 512", x.level(1, 0), 0);
        Kit.send(x, bytes);
        C.due("513 bytes have SLOT 512", x.level(1, 0), 22);
    }

    private static void otherStarts() {
        LampLine x = new LampLine();
        x.lamp(7, 1, 2, 1, 1);
        Kit.send(x, 0, 31, 32);
        int[] starts = {1, 2, 127, 128, 203, 205, 254, 255};
        for (int start : starts) {
            C.due("START " + start, Kit.send(x, start, 9, 9, 9), 0);
            C.due("START " + start + " of a packet", Kit.send(x, Kit.checked(Kit.with(GET, 0, start))), 0);
        }
        C.due("204 that is no packet", Kit.send(x, 204, 9, 9, 9), 0);
        C.due("no bytes at all", Kit.send(x), 0);
        C.due("level(0, 0) stays", x.level(0, 0), 31);
        C.due("level(0, 1) stays", x.level(0, 1), 32);
        C.due("nothing was asked", x.about(0, 10), 0);
        C.due("they are frames", x.frames(), 19);
    }

    private static void firstTwoBytes() {
        right("204, 1", GET);
        int[] others = {0, 2, 129, 255};
        for (int other : others) {
            nothing("204, " + other, Kit.checked(Kit.with(GET, 1, other)));
        }
        nothing("203, 1", Kit.checked(Kit.with(GET, 0, 203)));
        nothing("205, 1", Kit.checked(Kit.with(GET, 0, 205)));
        nothing("204 alone", 204);
        nothing("204, 1 alone", 204, 1);
        nothing("three bytes", 204, 1, 24);
    }

    private static int[] getWith(int size) {
        return Kit.packet(LAMP, Kit.SEARCHER, Kit.head(1, 1, 0, 0, 32, 240), Kit.same(1, size));
    }

    private static void lengths() {
        right("LENGTH 24", getWith(0));
        right("LENGTH 25", getWith(1));
        right("LENGTH 254", getWith(230));
        right("LENGTH 255", getWith(231));
        nothing("LENGTH 23", Kit.checked(Kit.with(Arrays.copyOf(GET, 25), 2, 23)));
        nothing("LENGTH 23 before 26 bytes", Kit.checked(Kit.with(GET, 2, 23)));
        nothing("LENGTH 25 before 26 bytes", Kit.checked(Kit.with(GET, 2, 25)));
        nothing("LENGTH 0", Kit.checked(Kit.with(GET, 2, 0)));
        // 232 bytes DATA would be LENGTH 256, which no byte can tell.
        int[] tooLong = Arrays.copyOf(getWith(231), 258);
        nothing("LENGTH 256", Kit.checked(Kit.with(Kit.with(tooLong, 2, 0), 23, 232)));
    }

    private static void sizes() {
        right("SIZE 0 of LENGTH 24", getWith(0));
        right("SIZE 2 of LENGTH 26", getWith(2));
        nothing("SIZE 1 of LENGTH 24", Kit.checked(Kit.with(getWith(0), 23, 1)));
        nothing("SIZE 255 of LENGTH 24", Kit.checked(Kit.with(getWith(0), 23, 255)));
        nothing("SIZE 1 of LENGTH 26", Kit.checked(Kit.with(getWith(2), 23, 1)));
        nothing("SIZE 3 of LENGTH 26", Kit.checked(Kit.with(getWith(2), 23, 3)));
        nothing("SIZE 0 of LENGTH 26", Kit.checked(Kit.with(getWith(2), 23, 0)));
        nothing("SIZE 230 of LENGTH 255", Kit.checked(Kit.with(getWith(231), 23, 230)));
    }

    private static int[] withCheck(int[] packet, int sum) {
        int[] changed = Kit.with(packet, packet.length - 2, sum >> 8 & 255);
        return Kit.with(changed, packet.length - 1, sum & 255);
    }

    private static void sums() {
        int sum = GET[24] * 256 + GET[25];
        right("CHECK", withCheck(GET, sum));
        int[] others = {sum + 1, sum - 1, sum + 256, sum - 256, sum + 32768, 0, 65535, sum % 256 * 256 + sum / 256};
        for (int other : others) {
            nothing("CHECK " + other + " for " + sum, withCheck(GET, other));
        }
        for (int k = 3; k < 24; k++) {
            nothing("byte " + k + " is another", Kit.with(GET, k, GET[k] ^ 128));
        }
        // 255 bytes of 255 would be 65025: no sum comes to 65536, but this one is above 32767.
        LampLine x = new LampLine();
        x.lamp(32767, 4294967294L, 1, 1, 1);
        int[] most = Kit.packet(Kit.id(32767, 4294967294L), Kit.TO_ALL, Kit.head(255, 255, 255, 0, 32, 240),
                Kit.same(255, 231));
        C.due("the sum is above 32767", most[255] > 127 ? 1 : 0, 1);
        C.due("its packet is right", Kit.send(x, most), 28);
        C.due("less 32768 it is not", Kit.send(x, Kit.with(most, 255, most[255] - 128)), 0);
    }

    private static void endOfTheFrame() {
        right("a whole packet", GET);
        for (int size = 0; size < GET.length; size++) {
            nothing("its first " + size + " bytes", Arrays.copyOf(GET, size));
        }
        nothing("a byte 0 behind", Kit.joined(GET, 0));
        nothing("two packets", Kit.joined(GET, GET));
        nothing("up to 513 bytes", Arrays.copyOf(GET, 513));
        nothing("up to 520 bytes", Arrays.copyOf(GET, 520));
    }

    private static void calls() {
        LampLine x = new LampLine();
        x.lamp(1, 0, 1, 1, 1);
        x.lamp(32767, 4294967294L, 1, 1, 1);
        x.lamp(32767, 0, 1, 1, 1);
        means(x, 1, Kit.ALL_RESTS, 1);
        means(x, 32767, Kit.ALL_RESTS, 6);
        means(x, 65535, Kit.ALL_RESTS, 7);
        means(x, 0, Kit.ALL_RESTS, 0);
        means(x, 2, Kit.ALL_RESTS, 0);
        means(x, 32768, Kit.ALL_RESTS, 0);
        means(x, 65534, Kit.ALL_RESTS, 0);
        means(x, 65535, 4294967294L, 0);
        means(x, 65535, 0, 0);
        means(x, 1, 0, 1);
        means(x, 32767, 4294967294L, 2);
        means(x, 32767, 0, 4);
        means(x, 1, 4294967294L, 0);
    }

    /** A SET of 4096 is done by just those lamps: 1 the first, 2 the second, 4 the third. */
    private static void means(LampLine x, int maker, long rest, int lamps) {
        Kit.ask(x, maker, rest, Kit.SET, 4096, 1);
        String call = "TO " + maker + " and " + rest;
        C.due(call, x.about(0, 6) + 2 * x.about(1, 6) + 4 * x.about(2, 6), lamps);
        Kit.ask(x, 65535, Kit.ALL_RESTS, Kit.SET, 4096, 0);
    }

    private static void noneOneAndMany() {
        int[] all = Kit.joined(Kit.idBytes(0), Kit.idBytes(Kit.TO_ALL));
        int[] search = Kit.packet(Kit.TO_ALL, 5, Kit.head(1, 1, 0, 0, 16, 1), all);
        LampLine x = new LampLine();
        C.due("no lamp", Kit.send(x, search), 0);
        long[] ids = new long[24];
        for (int k = 0; k < 24; k++) {
            ids[k] = Kit.id(1 << k % 15, 3L << k);
            x.lamp(1 << k % 15, 3L << k, 1, 1, 1);
            C.due(k + 1 + " lamps", Kit.send(x, search), 24);
            if (k < 2 || k == 23) {
                C.due(k + 1 + " lamps' bytes", Kit.answer(x), Kit.together(Arrays.copyOf(ids, k + 1)));
            }
        }
        for (int k = 0; k < 24; k++) {
            x.silence(k, true);
        }
        C.due("24 that are SILENT", Kit.send(x, search), 0);
    }

    private static void spoiledOnce() {
        LampLine x = line();
        x.spoil(27, 1);
        C.due("send", Kit.send(x, GET), 28);
        C.due("spoiled", Kit.answer(x), Kit.with(REPLY, 27, REPLY[27] ^ 1));
        C.due("the next one is not", Kit.send(x, GET), 28);
        C.due("its bytes", Kit.answer(x), REPLY);
        // Two lamps fall together: each bit is changed behind the or, once for both.
        LampLine y = new LampLine();
        y.lamp(1, 1, 1, 1, 1);
        y.lamp(1, 2, 1, 1, 1);
        y.spoil(0, 255);
        Kit.ask(y, 65535, Kit.ALL_RESTS, Kit.SEARCH, 1, Kit.joined(Kit.idBytes(0), Kit.idBytes(Kit.TO_ALL)));
        C.due("254 with 255", y.answer(0), 1);
    }

    private static void fedNumbers() {
        LampLine x = new LampLine();
        x.lamp(1, 1, 21, 1, 1);
        C.due("feed on an empty tape", x.feed(0x00FF807F, -1, Integer.MIN_VALUE, Integer.MAX_VALUE, 1), 20);
        C.due("feed behind 20", x.feed(0x01020304, 0, 0, 0, 0), 40);
        x.end(22);
        x.send();
        int[] due = {255, 128, 127, 255, 255, 255, 255, 128, 0, 0, 0, 127, 255, 255, 255, 0, 0, 0, 1, 1, 2};
        for (int k = 0; k < due.length; k++) {
            C.due("byte " + (k + 1), x.level(0, k), due[k]);
        }
    }

    private static void fullTape() {
        for (int size = 499; size <= 520; size++) {
            LampLine x = new LampLine();
            x.lamp(1, 1, 1, 1, 512);
            for (int k = 0; k < 26; k++) {
                x.feed(0, 0, 0, 0, 0);
            }
            x.end(size);
            if (size <= 500) {
                C.due("feed behind " + size, x.feed(1, 2, 3, 4, 0x05050505), size + 20);
            } else {
                C.state("feed behind " + size, () -> x.feed(-1, -1, -1, -1, -1));
                int has = size;
                C.argument("the tape has no more", () -> x.end(has + 1));
                x.end(size);
                x.send();
                C.due("a refused feed leaves the tape", x.level(0, 0), 0);
            }
        }
    }

    private static void cutTape() {
        LampLine x = line();
        x.end(0);
        x.feed(0, 0, 0, 0x01020304, 0);
        x.end(20);
        x.end(14);
        x.end(14);
        C.argument("end(15) behind end(14)", () -> x.end(15));
        C.due("feed behind 14", x.feed(0x0A0B0C0D, 0, 0, 0, 0), 34);
        x.end(15);
        x.send();
        LampLine y = new LampLine();
        y.lamp(1, 1, 4, 1, 1);
        y.feed(0x00010203, 0x04050607, 0, 0, 0);
        y.end(2);
        y.feed(0x0A0B0C0D, 0, 0, 0, 0);
        y.end(4);
        y.send();
        C.due("the first 2 bytes stay", y.level(0, 0), 1);
        C.due("then the new ones come", y.level(0, 1), 10);
        C.due("and no more than 4", y.level(0, 3), 0);
        y.feed(0, 0, 0, 0, 0);
        y.end(0);
        C.due("feed behind end(0)", y.feed(0, 0, 0, 0, 0), 20);
    }

    private static void cutWrongly() {
        LampLine x = new LampLine();
        C.argument("end(1) of an empty tape", () -> x.end(1));
        C.argument("end(-1) of an empty tape", () -> x.end(-1));
        x.end(0);
        x.feed(0, 0, 0, 0, 0);
        C.argument("end(-1)", () -> x.end(-1));
        C.argument("end(least)", () -> x.end(Integer.MIN_VALUE));
        C.argument("end(21)", () -> x.end(21));
        C.argument("end(greatest)", () -> x.end(Integer.MAX_VALUE));
        C.due("a refused end leaves the tape", x.feed(0, 0, 0, 0, 0), 40);
        for (int k = 3; k <= 26; k++) {
            x.feed(0, 0, 0, 0, 0);
        }
        C.argument("end(521) of a full tape", () -> x.end(521));
        x.end(520);
        x.end(0);
        C.argument("end(1) behind end(0)", () -> x.end(1));
    }

    private static void sentTape() {
        LampLine x = new LampLine();
        x.lamp(1, 1, 1, 1, 1);
        int[] sizes = {0, 1, 2, 20, 512, 513, 514, 520};
        for (int size : sizes) {
            Kit.tape(x, new int[size]);
            C.due("send of " + size, x.send(), 0);
            C.argument("the tape is empty behind a send of " + size, () -> x.end(1));
        }
        C.due("frames()", x.frames(), sizes.length);
        C.due("feed behind send", x.feed(0, 0, 0, 0, 0), 20);
    }

    private static void sizesOfAnswers() {
        LampLine x = line();
        C.due("NOTHING", Kit.send(x, 0, 1), 0);
        C.due("GET 32 of nothing", Kit.send(x, Kit.packet(LAMP, 5, Kit.head(1, 1, 0, 0, 32, 32), 0)), 26);
        C.due("GET 240", Kit.send(x, GET), 28);
        int[] both = Kit.joined(Kit.idBytes(LAMP), Kit.idBytes(LAMP));
        C.due("SEARCH 1", Kit.send(x, Kit.packet(LAMP, 5, Kit.head(1, 1, 0, 0, 16, 1), both)), 24);
        Kit.ask(x, 7, Kit.ALL_RESTS, Kit.SET, 130, Kit.same(65, 32));
        C.due("GET of the longest LABEL", Kit.send(x, Kit.packet(LAMP, 5, Kit.head(1, 1, 0, 0, 32, 130))), 58);
        C.due("a spoiled one", spoiledSize(x), 28);
        C.due("NOTHING again", Kit.send(x), 0);
    }

    private static int spoiledSize(LampLine x) {
        x.spoil(2, 255);
        return Kit.send(x, GET);
    }

    private static void latestAnswer() {
        LampLine x = line();
        Kit.send(x, GET);
        C.due("of send", x.answer(20), 33);
        Kit.ask(x, 7, 1, Kit.SET, 4096, 0);
        C.due("of ask", x.answer(20), 49);
        C.argument("a refused ask", () -> x.ask(-1, 0, 0, 0, 0));
        C.due("leaves it", x.answer(20), 49);
        x.search();
        C.index("of search: NOTHING", () -> x.answer(0));
        x.step(1);
        C.due("of step", x.answer(20), 17);
        x.step(1);
        C.index("of a step without lamps: NOTHING", () -> x.answer(0));
        Kit.send(x, GET);
        x.step(1);
        C.due("a step without branches has no frame", x.answer(20), 33);
        Kit.send(x);
        C.index("of no bytes at all: NOTHING", () -> x.answer(0));
    }

    private static void answerBytesThatAreNot() {
        LampLine x = line();
        C.index("answer(0) before any frame", () -> x.answer(0));
        Kit.send(x, GET);
        C.due("answer(0)", x.answer(0), 204);
        C.due("answer(27)", x.answer(27), REPLY[27]);
        C.index("answer(28)", () -> x.answer(28));
        C.index("answer(-1)", () -> x.answer(-1));
        C.index("answer(least)", () -> x.answer(Integer.MIN_VALUE));
        C.index("answer(greatest)", () -> x.answer(Integer.MAX_VALUE));
        // A shorter answer behind a longer one ends at its own end.
        Kit.send(x, Kit.packet(LAMP, 5, Kit.head(1, 1, 0, 0, 32, 32), 0));
        C.due("answer(25)", x.answer(25) >= 0 ? 1 : 0, 1);
        C.index("answer(26)", () -> x.answer(26));
    }

    private static void framesThereWere() {
        LampLine x = line();
        C.due("at first", x.frames(), 0);
        Kit.send(x);
        C.due("no bytes at all", x.frames(), 1);
        Kit.send(x, 9);
        C.due("nothing", x.frames(), 2);
        Kit.ask(x, 9, 9, 0, 0);
        C.due("ask", x.frames(), 3);
        x.search();
        C.due("search", x.frames(), 4);
        x.step(1);
        C.due("a step that finds", x.frames(), 6);
        x.step(1000);
        C.due("a step to NOTHING, and no more branches", x.frames(), 7);
        x.step(1000);
        C.due("steps without branches", x.frames(), 7);
    }

    private static void refusedCallsAreNoFrames() {
        LampLine x = line();
        C.argument("lamp", () -> x.lamp(0, 0, 0, 0, 0));
        C.argument("end", () -> x.end(1));
        C.argument("ask", () -> x.ask(7, 1, 0, 256, 0));
        C.argument("spoil", () -> x.spoil(301, 0));
        C.state("step", () -> x.step(1));
        C.index("answer", () -> x.answer(0));
        x.silence(0, true);
        C.due("frames()", x.frames(), 0);
        x.search();
        C.argument("step", () -> x.step(1001));
        C.due("frames()", x.frames(), 1);
    }

    private static void spoilWaits() {
        LampLine x = line();
        x.spoil(0, 3);
        Kit.send(x);
        Kit.send(x, 0, 1, 2);
        C.due("nobody there", Kit.ask(x, 9, 9, Kit.GET, 240), LampLine.NONE);
        C.due("a CALL", Kit.ask(x, 7, Kit.ALL_RESTS, Kit.SET, 4096, 1), LampLine.NONE);
        x.search();
        x.spoil(1, 4);
        Kit.send(x, GET);
        C.due("the first ANSWER", Kit.answer(x), Kit.with(Kit.with(REPLY, 0, 207), 1, 5));
        Kit.send(x, GET);
        C.due("the second one", Kit.answer(x), REPLY);
    }

    private static void lowestByteOfTheMask() {
        int[] masks = {0, 1, 128, 255, 256, 257, 0x7FFFFF00, -1, -256, Integer.MIN_VALUE, Integer.MAX_VALUE};
        LampLine x = line();
        for (int mask : masks) {
            x.spoil(24, mask);
            Kit.send(x, GET);
            C.due("byte 0 with mask " + mask, x.answer(24), mask & 255);
            C.due("the byte before", x.answer(23), 2);
            C.due("the byte behind", x.answer(25), 10);
        }
        x.spoil(25, 255);
        x.spoil(25, 15);
        Kit.send(x, GET);
        C.due("two for one byte", x.answer(25), 10 ^ 255 ^ 15);
    }

    private static void spoiledByteThatIsNot() {
        LampLine x = line();
        x.spoil(28, 255);
        x.spoil(300, 255);
        Kit.send(x, GET);
        C.due("28 bytes have no byte 28", Kit.answer(x), REPLY);
        C.due("a longer one behind it", Kit.ask(x, 7, 1, Kit.GET, 96), 0);
        x.spoil(27, 255);
        Kit.send(x, GET);
        C.due("they have byte 27", x.answer(27), REPLY[27] ^ 255);
    }

    private static void sixteenSpoils() {
        for (int many = 15; many <= 34; many++) {
            LampLine x = line();
            int[] due = REPLY.clone();
            for (int k = 0; k < many; k++) {
                x.spoil(k % 28, 1 << k / 28);
                if (k >= many - 16) {
                    due[k % 28] ^= 1 << k / 28;
                }
            }
            Kit.send(x, GET);
            C.due(many + " spoils", Kit.answer(x), due);
            Kit.send(x, GET);
            C.due("then none", Kit.answer(x), REPLY);
        }
    }

    private static void spoilEdges() {
        LampLine x = line();
        C.argument("spoil(-1, 1)", () -> x.spoil(-1, 1));
        C.argument("spoil(301, 1)", () -> x.spoil(301, 1));
        C.argument("spoil(least, 1)", () -> x.spoil(Integer.MIN_VALUE, 1));
        C.argument("spoil(greatest, 1)", () -> x.spoil(Integer.MAX_VALUE, 1));
        Kit.send(x, GET);
        C.due("none of them spoils", Kit.answer(x), REPLY);
        x.spoil(0, 1);
        x.spoil(300, 1);
        Kit.send(x, GET);
        C.due("spoil(0, 1)", Kit.answer(x), Kit.with(REPLY, 0, 205));
    }

    private static void refusedSpoilIsNone() {
        LampLine x = line();
        int[] due = REPLY.clone();
        for (int k = 0; k < 16; k++) {
            x.spoil(k, 16);
            due[k] ^= 16;
        }
        C.argument("spoil(301, 1)", () -> x.spoil(301, 1));
        C.argument("spoil(-1, 1)", () -> x.spoil(-1, 1));
        Kit.send(x, GET);
        C.due("the first one is not out", Kit.answer(x), due);
    }
}
