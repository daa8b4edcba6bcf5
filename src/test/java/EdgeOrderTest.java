import java.util.Arrays;

/** GET and SET, replies that are LATER or WAIT, and promise 7: a test for each sentence that names a boundary case. */
public final class EdgeOrderTest {
    private static final Check C = new Check("EdgeOrderTest");
    private static final int MAKER = 7;
    private static final long REST = 5;
    private static final int ALL_PARTS = 65535;

    public static void main(String[] args) {
        C.sentence("MESSAGES how many WAIT there (0 .. 4)", EdgeOrderTest::messages);
        C.sentence("To a CALL there is no reply at all (SEARCH and SET are done all the same, a GET is nothing).",
                EdgeOrderTest::calls);
        C.sentence("A packet with CLASS 16: SEARCH; 32: GET; 48: SET; others are nothing.", EdgeOrderTest::classes);
        C.sentence("REFUSED has two bytes DATA, a REASON.", EdgeOrderTest::refusal);
        C.sentence("PART 65535 by SET to all parts, else 0: others are REFUSED, 9 (GET with 65535, too).",
                EdgeOrderTest::parts);
        C.sentence("80, 96, 128, 130, 224, 240, 4096, 32; others are REFUSED, 0.", EdgeOrderTest::unknownMatters);
        C.sentence("SET of 80, 96, 128, 32: REFUSED, 5.", EdgeOrderTest::fixedMatters);
        C.sentence("A SIZE that is not as told: REFUSED, 1.", EdgeOrderTest::sizesOfGets);
        C.sentence("A SIZE that is not as told: REFUSED, 1.", EdgeOrderTest::sizesOfSets);
        C.sentence("A value that may not be: REFUSED, 6.", EdgeOrderTest::refusedValueChangesNothing);
        C.sentence("(The first of these, in this order.)", EdgeOrderTest::orderOfReasons);
        matters();
        later();
        askPromise();
        C.finish();
    }

    private static void matters() {
        C.sentence("how many GETS and SETS by ID it had, modulo 65536 (2; with this one)", EdgeOrderTest::ordersByID);
        C.sentence("MAKER (2), the rest (4), FOOTPRINT (2), MODE (1), MODES (1), ADDRESS (2), 0 (2)",
                EdgeOrderTest::greatestNumbers);
        C.sentence("LAMP and its rest as eight digits 0 .. 9, A .. F (12 signs).", EdgeOrderTest::digits);
        C.sentence("SET (0 .. 32 bytes of 32 .. 126): its LABEL (empty at first).", EdgeOrderTest::labelSizes);
        C.sentence("SET (0 .. 32 bytes of 32 .. 126): its LABEL (empty at first).", EdgeOrderTest::labelBytes);
        C.sentence("SET (one byte: 1 .. MODES, so that all its SLOTS are 512 at most): the MODE.",
                EdgeOrderTest::modes);
        C.sentence("SET (one byte: 1 .. MODES, so that all its SLOTS are 512 at most): the MODE.",
                EdgeOrderTest::modesThatFit);
        C.sentence("SET (two bytes: 1 .. 512, and so that all its SLOTS are 512 at most): its ADDRESS.",
                EdgeOrderTest::addresses);
        C.sentence("SET (two bytes: 1 .. 512, and so that all its SLOTS are 512 at most): its ADDRESS.",
                EdgeOrderTest::addressesThatFit);
        C.sentence("SET (one byte, 0 or 1): whether it SHOWS itself.", EdgeOrderTest::shows);
        C.sentence("32 GET (one byte, which is not asked)", EdgeOrderTest::byteThatIsNotAsked);
        C.sentence("and waits no more; nothing: a reply to it of no DATA.", EdgeOrderTest::untilNothingWaits);
    }

    private static void later() {
        C.sentence("it is done 3 frames behind this one (before that frame is looked at)",
                EdgeOrderTest::threeFramesBehind);
        C.sentence("it is done 3 frames behind this one (before that frame is looked at)",
                EdgeOrderTest::beforeThatFrame);
        C.sentence("and then its reply (without DATA) WAITS", EdgeOrderTest::thenItWaits);
        C.sentence("four may wait or be on their way to: a fifth one is REFUSED, 7.", EdgeOrderTest::fifthOnTheWay);
        C.sentence("four may wait or be on their way to: a fifth one is REFUSED, 7.", EdgeOrderTest::fifthThatWould);
        C.sentence("four may wait or be on their way to: a fifth one is REFUSED, 7.", EdgeOrderTest::fourOfEachLamp);
        C.sentence("By a CALL it is done at once.", EdgeOrderTest::labelByCall);
        C.sentence("All other SETS are done at once (reply without DATA).", EdgeOrderTest::atOnce);
    }

    private static void askPromise() {
        C.sentence("to an ID (maker 0 .. 65535, rest 0 .. 4294967295)", EdgeOrderTest::askedIds);
        C.sentence("IllegalArgumentException: the ID, part 0 .. 65535, kind (the CLASS) 0 .. 255, matter 0 .. 65535.",
                EdgeOrderTest::askedEdges);
        C.sentence("IllegalArgumentException: the ID, part 0 .. 65535, kind (the CLASS) 0 .. 255, matter 0 .. 65535.",
                EdgeOrderTest::refusedAskLeavesAll);
        C.sentence("the tape being its DATA (its first 231 bytes), empty then", EdgeOrderTest::askedData);
        C.sentence("KIND of a right reply", EdgeOrderTest::kinds);
        C.sentence("(a right packet from that ID, to the searcher, its COUNT); -2 for another ANSWER",
                EdgeOrderTest::otherAnswers);
        C.sentence("-2 for another ANSWER, NONE without one.", EdgeOrderTest::noAnswer);
    }

    private static LampLine line() {
        LampLine x = new LampLine();
        x.lamp(MAKER, REST, 3, 4, 10);
        return x;
    }

    private static int get(LampLine x, int matter, int... data) {
        return Kit.ask(x, MAKER, REST, Kit.GET, matter, data);
    }

    private static int set(LampLine x, int matter, int... data) {
        return Kit.ask(x, MAKER, REST, Kit.SET, matter, data);
    }

    private static void refused(String call, LampLine x, int kind, int reason) {
        C.due(call, kind, 2);
        C.due(call + ": its REASON", Kit.data(x), 0, reason);
    }

    private static void pass(LampLine x, int frames) {
        for (int k = 0; k < frames; k++) {
            x.send();
        }
    }

    /** A lamp with four replies that WAIT. */
    private static LampLine fourWaiting() {
        LampLine x = line();
        for (int k = 0; k < 4; k++) {
            set(x, 130, 'a' + k);
        }
        pass(x, 3);
        return x;
    }

    private static void messages() {
        LampLine x = line();
        for (int waiting = 0; waiting <= 4; waiting++) {
            Kit.ask(x, MAKER, REST, Kit.SEARCH, 3);
            C.due("MESSAGES of a SEARCH, " + waiting + " wait", x.answer(17), waiting);
            C.due("about(0, 8)", x.about(0, 8), waiting);
            get(x, 240);
            C.due("MESSAGES of a GET", x.answer(17), waiting);
            get(x, 1);
            C.due("MESSAGES of a refusal", x.answer(17), waiting);
            set(x, 130, 'a');
            C.due("MESSAGES of LATER", x.answer(17), waiting);
            pass(x, 3);
        }
        for (int left = 3; left >= 0; left--) {
            get(x, 32, 0);
            C.due("MESSAGES of GET 32 with " + left + " left", x.answer(17), left);
        }
    }

    private static void calls() {
        long[][] tos = {{MAKER, Kit.ALL_RESTS}, {65535, Kit.ALL_RESTS}};
        for (long[] to : tos) {
            LampLine x = fourWaiting();
            int maker = (int) to[0];
            C.due("SET", Kit.ask(x, maker, to[1], Kit.SET, 224, 2), LampLine.NONE);
            C.due("is done", x.about(0, 2), 2);
            C.due("a SET that is refused", Kit.ask(x, maker, to[1], Kit.SET, 224, 5), LampLine.NONE);
            C.due("is not done", x.about(0, 2), 2);
            C.due("SEARCH 2", Kit.ask(x, maker, to[1], Kit.SEARCH, 2), LampLine.NONE);
            C.due("is done", x.about(0, 5), 1);
            C.due("SEARCH 3", Kit.ask(x, maker, to[1], Kit.SEARCH, 3), LampLine.NONE);
            C.due("is done", x.about(0, 5), 0);
            C.due("GET 80", Kit.ask(x, maker, to[1], Kit.GET, 80), LampLine.NONE);
            C.due("GET 1", Kit.ask(x, maker, to[1], Kit.GET, 1), LampLine.NONE);
            C.due("GET 32", Kit.ask(x, maker, to[1], Kit.GET, 32, 0), LampLine.NONE);
            C.due("takes none that waits", x.about(0, 8), 4);
            C.due("none of them is by ID", x.about(0, 10), 4);
        }
    }

    private static void classes() {
        int[] others = {0, 1, 15, 17, 31, 33, 47, 49, 64, 80, 128 + 16, 128 + 32, 128 + 48, 255};
        for (int other : others) {
            LampLine x = line();
            get(x, 80);
            C.due("CLASS " + other + ", MATTER 2", Kit.ask(x, MAKER, REST, other, 2), LampLine.NONE);
            C.due("CLASS " + other + ", MATTER 80", Kit.ask(x, MAKER, REST, other, 80), LampLine.NONE);
            C.due("CLASS " + other + ", MATTER 224", Kit.ask(x, MAKER, REST, other, 224, 2), LampLine.NONE);
            C.due("it is not SILENT", x.about(0, 5), 0);
            C.due("its MODE stays", x.about(0, 2), 1);
            C.due("it was asked once, before", x.about(0, 10), 1);
        }
        LampLine x = line();
        int[] known = {Kit.SEARCH, Kit.GET, Kit.SET};
        for (int group : known) {
            C.due("CLASS " + group, Kit.ask(x, MAKER, REST, group, group == 16 ? 2 : 240) >= 0 ? 1 : 0, 1);
            C.due("its reply's CLASS", x.answer(20), group + 1);
        }
    }

    private static void refusal() {
        LampLine x = line();
        C.due("REFUSED", Kit.askPart(x, MAKER, REST, 258, Kit.SET, 4096, 1), 2);
        C.due("its reply", Kit.answer(x), Kit.packet(Kit.SEARCHER, Kit.id(MAKER, REST),
                Kit.head(1, 2, 0, 258, 49, 4096), 0, 9));
        C.due("REFUSED, 0", get(x, 65535), 2);
        C.due("its reply", Kit.answer(x), Kit.packet(Kit.SEARCHER, Kit.id(MAKER, REST),
                Kit.head(2, 2, 0, 0, 33, 65535), 0, 0));
        C.due("it was asked all the same", x.about(0, 10), 2);
    }

    private static void parts() {
        LampLine x = line();
        int[] others = {1, 2, 255, 256, 32768, 65534};
        for (int part : others) {
            refused("GET of PART " + part, x, Kit.askPart(x, MAKER, REST, part, Kit.GET, 240), 9);
            refused("SET of PART " + part, x, Kit.askPart(x, MAKER, REST, part, Kit.SET, 4096, 1), 9);
            Kit.askPart(x, MAKER, Kit.ALL_RESTS, part, Kit.SET, 4096, 1);
            C.due("it does not SHOW itself", x.about(0, 6), 0);
        }
        refused("GET of all parts", x, Kit.askPart(x, MAKER, REST, ALL_PARTS, Kit.GET, 240), 9);
        refused("GET 32 of all parts", x, Kit.askPart(x, MAKER, REST, ALL_PARTS, Kit.GET, 32, 0), 9);
        C.due("GET of PART 0", Kit.askPart(x, MAKER, REST, 0, Kit.GET, 240), 0);
        C.due("SET of all parts", Kit.askPart(x, MAKER, REST, ALL_PARTS, Kit.SET, 4096, 1), 0);
        C.due("it SHOWS itself", x.about(0, 6), 1);
        C.due("SET of PART 0", Kit.askPart(x, MAKER, REST, 0, Kit.SET, 4096, 0), 0);
        C.due("it does not", x.about(0, 6), 0);
        Kit.askPart(x, MAKER, Kit.ALL_RESTS, ALL_PARTS, Kit.SET, 4096, 1);
        C.due("it does by a CALL to all parts", x.about(0, 6), 1);
        C.due("LATER for all parts", Kit.askPart(x, MAKER, REST, ALL_PARTS, Kit.SET, 130, 'a'), 1);
    }

    private static void unknownMatters() {
        LampLine x = line();
        int[] unknown = {0, 1, 2, 3, 31, 33, 79, 81, 95, 97, 127, 129, 131, 223, 225, 239, 241, 4095, 4097, 4128,
            65535};
        for (int matter : unknown) {
            refused("GET " + matter, x, get(x, matter), 0);
            refused("SET " + matter, x, set(x, matter), 0);
        }
        int[] known = {80, 96, 128, 130, 224, 240, 4096};
        for (int matter : known) {
            C.due("GET " + matter, get(x, matter), 0);
        }
        C.due("GET 32", get(x, 32, 0), 0);
    }

    private static void fixedMatters() {
        LampLine x = line();
        int[] fixed = {80, 96, 128, 32};
        for (int matter : fixed) {
            refused("SET " + matter, x, set(x, matter), 5);
            refused("SET " + matter + " of a byte", x, set(x, matter, 0), 5);
            refused("SET " + matter + " of 16 bytes", x, set(x, matter, new int[16]), 5);
            refused("SET " + matter + " to all parts", x, Kit.askPart(x, MAKER, REST, ALL_PARTS, Kit.SET, matter), 5);
        }
    }

    private static void sizesOfGets() {
        LampLine x = line();
        int[] empty = {80, 96, 128, 130, 224, 240, 4096};
        for (int matter : empty) {
            C.due("GET " + matter, get(x, matter), 0);
            refused("GET " + matter + " of a byte", x, get(x, matter, 0), 1);
            refused("GET " + matter + " of 16 bytes", x, get(x, matter, new int[16]), 1);
        }
        refused("GET 32 of none", x, get(x, 32), 1);
        C.due("GET 32 of a byte", get(x, 32, 0), 0);
        refused("GET 32 of two", x, get(x, 32, 0, 0), 1);
        LampLine y = fourWaiting();
        refused("GET 32 of none", y, get(y, 32), 1);
        C.due("takes none that waits", y.about(0, 8), 4);
    }

    private static void sizesOfSets() {
        LampLine x = line();
        refused("SET 130 of 33", x, set(x, 130, Kit.same(65, 33)), 1);
        refused("SET 130 of 231", x, set(x, 130, Kit.same(65, 231)), 1);
        refused("SET 224 of none", x, set(x, 224), 1);
        refused("SET 224 of two", x, set(x, 224, 2, 2), 1);
        refused("SET 240 of none", x, set(x, 240), 1);
        refused("SET 240 of one", x, set(x, 240, 2), 1);
        refused("SET 240 of three", x, set(x, 240, 0, 2, 0), 1);
        refused("SET 4096 of none", x, set(x, 4096), 1);
        refused("SET 4096 of two", x, set(x, 4096, 1, 1), 1);
        Kit.ask(x, MAKER, Kit.ALL_RESTS, Kit.SET, 224, 2, 2);
        Kit.ask(x, MAKER, Kit.ALL_RESTS, Kit.SET, 240, 0, 2, 0);
        Kit.ask(x, MAKER, Kit.ALL_RESTS, Kit.SET, 4096, 1, 1);
        Kit.ask(x, MAKER, Kit.ALL_RESTS, Kit.SET, 130, Kit.same(65, 33));
        unchanged(x);
        C.due("SET 224 of one", set(x, 224, 2), 0);
        C.due("SET 240 of two", set(x, 240, 0, 2), 0);
        C.due("SET 4096 of one", set(x, 4096, 1), 0);
    }

    private static void unchanged(LampLine x) {
        pass(x, 3);
        C.due("MODE stays", x.about(0, 2), 1);
        C.due("ADDRESS stays", x.about(0, 4), 10);
        C.due("it does not SHOW itself", x.about(0, 6), 0);
        C.due("the LABEL stays", x.about(0, 9), 0);
        C.due("nothing WAITS", x.about(0, 8), 0);
    }

    private static void refusedValueChangesNothing() {
        LampLine x = line();
        refused("SET 224", x, set(x, 224, 5), 6);
        refused("SET 240", x, set(x, 240, 2, 0), 6);
        refused("SET 4096", x, set(x, 4096, 255), 6);
        refused("SET 130", x, set(x, 130, 'a', 10, 'b'), 6);
        Kit.ask(x, MAKER, Kit.ALL_RESTS, Kit.SET, 224, 0);
        Kit.ask(x, MAKER, Kit.ALL_RESTS, Kit.SET, 240, 0, 0);
        Kit.ask(x, MAKER, Kit.ALL_RESTS, Kit.SET, 4096, 2);
        Kit.ask(x, MAKER, Kit.ALL_RESTS, Kit.SET, 130, 'a', 127);
        unchanged(x);
    }

    private static void orderOfReasons() {
        LampLine x = fourWaiting();
        refused("9 before 0", x, Kit.askPart(x, MAKER, REST, 1, Kit.GET, 1), 9);
        refused("9 before 0, all parts", x, Kit.askPart(x, MAKER, REST, ALL_PARTS, Kit.GET, 1), 9);
        refused("9 before 5", x, Kit.askPart(x, MAKER, REST, 1, Kit.SET, 80), 9);
        refused("9 before 1", x, Kit.askPart(x, MAKER, REST, 1, Kit.GET, 80, 1), 9);
        refused("9 before 6", x, Kit.askPart(x, MAKER, REST, 1, Kit.SET, 4096, 2), 9);
        refused("9 before 7", x, Kit.askPart(x, MAKER, REST, 1, Kit.SET, 130, 'a'), 9);
        refused("0 before 5 and 1", x, set(x, 81, new int[40]), 0);
        refused("0 before 1", x, get(x, 81, 1), 0);
        refused("5 before 1", x, set(x, 80, new int[40]), 5);
        refused("1 before 6, MODE", x, set(x, 224, 0, 0), 1);
        refused("1 before 6, ADDRESS", x, set(x, 240, 0, 0, 0), 1);
        refused("1 before 6, SHOWS", x, set(x, 4096, 2, 2), 1);
        refused("1 before 6, LABEL", x, set(x, 130, Kit.same(127, 33)), 1);
        refused("1 before 7", x, set(x, 130, Kit.same(65, 33)), 1);
        refused("6 before 7", x, set(x, 130, 127), 6);
        refused("7", x, set(x, 130, 126), 7);
    }

    private static void ordersByID() {
        LampLine x = line();
        get(x, 96);
        C.due("with this one", new int[] {x.answer(38), x.answer(39)}, 0, 1);
        refused("a refused GET", x, get(x, 1), 0);
        set(x, 4096, 1);
        set(x, 130, 'a');
        Kit.ask(x, MAKER, REST, Kit.SEARCH, 2);
        Kit.ask(x, MAKER, Kit.ALL_RESTS, Kit.SET, 4096, 1);
        Kit.ask(x, MAKER, Kit.ALL_RESTS, Kit.GET, 80);
        Kit.ask(x, MAKER, REST + 1, Kit.GET, 80);
        C.due("four of them are GETS and SETS by ID", x.about(0, 10), 4);
        for (int k = 5; k <= 254; k++) {
            x.ask(MAKER, REST, 0, Kit.GET, 80);
        }
        x.ask(MAKER, REST, 0, Kit.GET, 96);
        C.due("255", new int[] {x.answer(38), x.answer(39)}, 0, 255);
        x.ask(MAKER, REST, 0, Kit.GET, 96);
        C.due("256", new int[] {x.answer(38), x.answer(39)}, 1, 0);
        C.due("about(0, 10)", x.about(0, 10), 256);
    }

    private static void greatestNumbers() {
        LampLine x = new LampLine();
        x.lamp(32767, 4294967294L, 64, 8, 1);
        Kit.ask(x, 32767, 4294967294L, Kit.SET, 224, 8);
        Kit.ask(x, 32767, 4294967294L, Kit.GET, 96);
        C.due("512 SLOTS", Kit.data(x), 127, 255, 255, 255, 255, 254, 2, 0, 8, 8, 0, 1, 0, 0, 0, 2);
        x.lamp(1, 0, 1, 1, 512);
        Kit.ask(x, 1, 0, Kit.GET, 96);
        C.due("SLOT 512", Kit.data(x), 0, 1, 0, 0, 0, 0, 0, 1, 1, 1, 2, 0, 0, 0, 0, 1);
    }

    private static void digits() {
        long[] rests = {0, 9, 10, 15, 16, 0x89ABCDEFL, 0x01234567L, 0xF0000000L, 4294967294L};
        String[] names = {"LAMP00000000", "LAMP00000009", "LAMP0000000A", "LAMP0000000F", "LAMP00000010",
            "LAMP89ABCDEF", "LAMP01234567", "LAMPF0000000", "LAMPFFFFFFFE"};
        for (int k = 0; k < rests.length; k++) {
            LampLine x = new LampLine();
            x.lamp(32767, rests[k], 1, 1, 1);
            C.due("GET 128", Kit.ask(x, 32767, rests[k], Kit.GET, 128), 0);
            C.due("its 12 signs", Kit.data(x), Kit.bytes(names[k]));
        }
    }

    private static void labelSizes() {
        LampLine x = line();
        get(x, 130);
        C.due("empty at first", Kit.data(x));
        int[] sizes = {32, 1, 31, 0};
        for (int size : sizes) {
            C.due("SET of " + size, set(x, 130, Kit.same('A' + size, size)), 1);
            pass(x, 2);
            get(x, 130);
            C.due("GET of " + size, Kit.data(x), Kit.same('A' + size, size));
            C.due("about(0, 9)", x.about(0, 9), size);
            get(x, 32, 0);
        }
        refused("SET of 33", x, set(x, 130, Kit.same('A', 33)), 1);
        int[] byCall = {32, 0};
        for (int size : byCall) {
            Kit.ask(x, MAKER, Kit.ALL_RESTS, Kit.SET, 130, Kit.same('A', size));
            C.due("by a CALL of " + size, x.about(0, 9), size);
        }
    }

    private static void labelBytes() {
        int[] wrong = {0, 1, 31, 127, 128, 160, 255};
        LampLine x = line();
        for (int one : wrong) {
            refused("a byte " + one, x, set(x, 130, one), 6);
            refused("a byte " + one + " first", x, set(x, 130, one, 65, 65), 6);
            refused("a byte " + one + " last", x, set(x, 130, Kit.joined(Kit.same(65, 31), one)), 6);
        }
        unchanged(x);
        C.due("bytes 32 and 126", set(x, 130, 32, 33, 125, 126), 1);
        pass(x, 3);
        get(x, 130);
        C.due("the LABEL", Kit.data(x), 32, 33, 125, 126);
    }

    private static void modes() {
        for (int modes = 1; modes <= 8; modes += 7) {
            LampLine x = new LampLine();
            x.lamp(MAKER, REST, 2, modes, 1);
            refused("MODE 0", x, set(x, 224, 0), 6);
            refused("MODE one above", x, set(x, 224, modes + 1), 6);
            refused("MODE 128", x, set(x, 224, 128), 6);
            refused("MODE 255", x, set(x, 224, 255), 6);
            C.due("MODE stays", x.about(0, 2), 1);
            C.due("the greatest MODE", set(x, 224, modes), 0);
            get(x, 224);
            C.due("GET 224", Kit.data(x), modes, modes);
            C.due("the least MODE", set(x, 224, 1), 0);
            C.due("MODE", x.about(0, 2), 1);
        }
    }

    private static void modesThatFit() {
        LampLine x = new LampLine();
        x.lamp(MAKER, REST, 64, 8, 1);
        C.due("8 times 64 at 1", set(x, 224, 8), 0);
        C.due("back", set(x, 224, 1), 0);
        C.due("to 2", set(x, 240, 0, 2), 0);
        refused("8 times 64 at 2", x, set(x, 224, 8), 6);
        C.due("MODE stays", x.about(0, 2), 1);
        C.due("7 times 64 at 2", set(x, 224, 7), 0);
        C.due("to 65", set(x, 240, 0, 65), 0);
        refused("8 times 64 at 65", x, set(x, 224, 8), 6);
        C.due("MODE stays", x.about(0, 2), 7);
        C.due("7 times 64 at 65", set(x, 224, 7), 0);
        C.due("1 time 64 at 65", set(x, 224, 1), 0);
    }

    private static void addresses() {
        LampLine x = new LampLine();
        x.lamp(MAKER, REST, 1, 1, 100);
        int[][] wrong = {{0, 0}, {2, 1}, {2, 2}, {128, 1}, {255, 255}};
        for (int[] address : wrong) {
            refused("ADDRESS " + address[0] + ", " + address[1], x, set(x, 240, address), 6);
        }
        C.due("ADDRESS stays", x.about(0, 4), 100);
        int[][] right = {{0, 1}, {2, 0}, {1, 0}, {0, 255}, {1, 255}};
        for (int[] address : right) {
            C.due("ADDRESS " + address[0] + ", " + address[1], set(x, 240, address), 0);
            C.due("about(0, 4)", x.about(0, 4), address[0] * 256 + address[1]);
            get(x, 240);
            C.due("GET 240", Kit.data(x), address);
        }
    }

    private static void addressesThatFit() {
        LampLine x = line();
        C.due("3 SLOTS at 510", set(x, 240, 1, 254), 0);
        refused("3 SLOTS at 511", x, set(x, 240, 1, 255), 6);
        refused("3 SLOTS at 512", x, set(x, 240, 2, 0), 6);
        C.due("ADDRESS stays", x.about(0, 4), 510);
        set(x, 240, 0, 1);
        set(x, 224, 4);
        C.due("12 SLOTS at 501", set(x, 240, 1, 245), 0);
        refused("12 SLOTS at 502", x, set(x, 240, 1, 246), 6);
        C.due("ADDRESS stays", x.about(0, 4), 501);
        LampLine y = new LampLine();
        y.lamp(MAKER, REST, 64, 8, 1);
        set(y, 224, 8);
        refused("512 SLOTS at 2", y, set(y, 240, 0, 2), 6);
        C.due("512 SLOTS at 1", set(y, 240, 0, 1), 0);
    }

    private static void shows() {
        LampLine x = line();
        get(x, 4096);
        C.due("at first", Kit.data(x), 0);
        C.due("1", set(x, 4096, 1), 0);
        get(x, 4096);
        C.due("GET 4096", Kit.data(x), 1);
        int[] wrong = {2, 3, 128, 255};
        for (int one : wrong) {
            refused("value " + one, x, set(x, 4096, one), 6);
        }
        C.due("it stays", x.about(0, 6), 1);
        C.due("0", set(x, 4096, 0), 0);
        C.due("about(0, 6)", x.about(0, 6), 0);
        refused("value 3", x, set(x, 4096, 3), 6);
        C.due("it stays", x.about(0, 6), 0);
    }

    private static void byteThatIsNotAsked() {
        int[] bytes = {0, 1, 2, 255};
        LampLine x = fourWaiting();
        for (int k = 0; k < 4; k++) {
            C.due("GET 32 of byte " + bytes[k], get(x, 32, bytes[k]), 0);
            C.due("its MATTER", x.answer(22), 130);
            C.due("waits no more", x.about(0, 8), 3 - k);
        }
    }

    private static void untilNothingWaits() {
        LampLine x = fourWaiting();
        int count = 4;
        for (int left = 3; left >= 0; left--) {
            count++;
            C.due("GET 32", get(x, 32, 0), 0);
            C.due("what WAITS", Kit.answer(x), Kit.packet(Kit.SEARCHER, Kit.id(MAKER, REST),
                    Kit.head(count, 0, left, 0, 49, 130)));
        }
        C.due("GET 32 of nothing", get(x, 32, 0), 0);
        C.due("a reply to it", Kit.answer(x), Kit.packet(Kit.SEARCHER, Kit.id(MAKER, REST),
                Kit.head(9, 0, 0, 0, 33, 32)));
        C.due("about(0, 8)", x.about(0, 8), 0);
        LampLine y = line();
        set(y, 130, 'a');
        get(y, 32, 0);
        C.due("one on its way does not WAIT yet", y.answer(22), 32);
    }

    /** A frame of some kind, none of which touches the LABEL. */
    private static void anyFrame(LampLine x, int kind) {
        switch (kind) {
            case 0: Kit.send(x); break;
            case 1: Kit.send(x, 0, 1, 2); break;
            case 2: Kit.send(x, 99); break;
            case 3: get(x, 240); break;
            case 4: Kit.ask(x, 9, 9, Kit.GET, 240); break;
            default: x.search(); break;
        }
    }

    private static void threeFramesBehind() {
        for (int kind = 0; kind < 6; kind++) {
            LampLine x = line();
            C.due("LATER", set(x, 130, 'a', 'b'), 1);
            C.due("DATA", Kit.data(x), 0, 3);
            for (int behind = 1; behind <= 4; behind++) {
                C.due("a refused call is no frame", x.about(0, 9), behind <= 3 ? 0 : 2);
                C.argument("a refused call", () -> x.ask(-1, 0, 0, 0, 0));
                anyFrame(x, kind);
                C.due(behind + " frames of kind " + kind + " behind", x.about(0, 9), behind < 3 ? 0 : 2);
                C.due("WAITS", x.about(0, 8), behind < 3 ? 0 : 1);
            }
        }
    }

    private static void beforeThatFrame() {
        LampLine x = line();
        set(x, 130, 'a', 'b');
        get(x, 130);
        C.due("GET 1 frame behind", Kit.data(x));
        get(x, 130);
        C.due("GET 2 frames behind", Kit.data(x));
        C.due("MESSAGES", x.answer(17), 0);
        get(x, 130);
        C.due("GET 3 frames behind", Kit.data(x), 'a', 'b');
        C.due("MESSAGES", x.answer(17), 1);
        LampLine y = line();
        set(y, 130, 'a', 'b');
        pass(y, 2);
        Kit.ask(y, MAKER, Kit.ALL_RESTS, Kit.SET, 130, 'c', 'd', 'e');
        C.due("a SET by a CALL in that frame comes behind it", y.about(0, 9), 3);
        C.due("it WAITS", y.about(0, 8), 1);
        LampLine z = line();
        set(z, 130, 'a', 'b');
        pass(z, 2);
        get(z, 32, 0);
        C.due("a GET 32 in that frame has it", z.answer(22), 130);
        C.due("it waits no more", z.about(0, 8), 0);
    }

    private static void thenItWaits() {
        LampLine x = line();
        Kit.askPart(x, MAKER, REST, ALL_PARTS, Kit.SET, 130, 'a');
        pass(x, 2);
        C.due("about(0, 8)", x.about(0, 8), 0);
        pass(x, 1);
        C.due("about(0, 8)", x.about(0, 8), 1);
        pass(x, 30);
        C.due("it WAITS long", x.about(0, 8), 1);
        C.due("GET 32", get(x, 32, 9), 0);
        C.due("without DATA", Kit.answer(x), Kit.packet(Kit.SEARCHER, Kit.id(MAKER, REST),
                Kit.head(2, 0, 0, 0, 49, 130)));
    }

    private static void fifthOnTheWay() {
        LampLine x = line();
        for (int k = 1; k <= 4; k++) {
            C.due("number " + k, set(x, 130, 'a' + k), 1);
            C.due("its DATA", Kit.data(x), 0, 3);
        }
        refused("a fifth one, two on their way", x, set(x, 130, 'z'), 7);
        C.due("two wait", x.about(0, 8), 2);
        refused("a fifth one, one on its way", x, set(x, 130, 'z'), 7);
        C.due("three wait", x.about(0, 8), 3);
        refused("a fifth one, four wait", x, set(x, 130, 'z'), 7);
        C.due("four wait", x.about(0, 8), 4);
        refused("an empty one", x, set(x, 130), 7);
        pass(x, 4);
        C.due("none of them is done", x.label(0, 0), 'e');
        C.due("four wait", x.about(0, 8), 4);
    }

    private static void fifthThatWould() {
        LampLine x = fourWaiting();
        C.due("GET 32", get(x, 32, 0), 0);
        C.due("a fourth one again", set(x, 130, 'y'), 1);
        refused("a fifth one", x, set(x, 130, 'z'), 7);
        C.due("GET 32 while one is on its way", get(x, 32, 0), 0);
        C.due("a fourth one again", set(x, 130, 'x'), 1);
        refused("a fifth one", x, set(x, 130, 'z'), 7);
        pass(x, 3);
        C.due("four wait", x.about(0, 8), 4);
        C.due("the LABEL", x.label(0, 0), 'x');
    }

    private static void fourOfEachLamp() {
        LampLine x = fourWaiting();
        x.lamp(MAKER, REST + 1, 1, 1, 1);
        C.due("another lamp", Kit.ask(x, MAKER, REST + 1, Kit.SET, 130, 'q'), 1);
        refused("this lamp", x, set(x, 130, 'z'), 7);
        get(x, 32, 0);
        pass(x, 2);
        C.due("of this lamp", x.about(0, 8), 3);
        C.due("of the other", x.about(1, 8), 1);
        C.due("its LABEL", x.label(1, 0), 'q');
    }

    private static void labelByCall() {
        LampLine x = line();
        Kit.ask(x, 65535, Kit.ALL_RESTS, Kit.SET, 130, 'a', 'b');
        C.due("at once", x.about(0, 9), 2);
        pass(x, 3);
        C.due("it never WAITS", x.about(0, 8), 0);
        LampLine y = fourWaiting();
        Kit.ask(y, MAKER, Kit.ALL_RESTS, Kit.SET, 130, 'a', 'b');
        C.due("though four wait", y.about(0, 9), 2);
        C.due("four wait", y.about(0, 8), 4);
        LampLine z = line();
        set(z, 130, 'l');
        Kit.ask(z, MAKER, Kit.ALL_RESTS, Kit.SET, 130, 'm', 'n');
        C.due("though one is on its way", z.about(0, 9), 2);
        pass(z, 2);
        C.due("which comes over it then", z.label(0, 0), 'l');
        C.due("and WAITS", z.about(0, 8), 1);
    }

    private static void atOnce() {
        int[][] sets = {{224, 2}, {240, 1, 0}, {4096, 1}};
        for (int[] it : sets) {
            LampLine x = fourWaiting();
            int[] data = Arrays.copyOfRange(it, 1, it.length);
            C.due("SET " + it[0], set(x, it[0], data), 0);
            C.due("without DATA", Kit.answer(x), Kit.packet(Kit.SEARCHER, Kit.id(MAKER, REST),
                    Kit.head(5, 0, 4, 0, 49, it[0])));
            get(x, it[0]);
            C.due("it is done", x.answer(24), data[0]);
            C.due("no more WAIT", x.about(0, 8), 4);
            C.due("MODE", x.about(0, 2), it[0] == 224 ? 2 : 1);
            C.due("ADDRESS", x.about(0, 4), it[0] == 240 ? 256 : 10);
            C.due("SHOWS", x.about(0, 6), it[0] == 4096 ? 1 : 0);
        }
    }

    private static void askedIds() {
        LampLine x = line();
        int[] makers = {Integer.MIN_VALUE, -1, 65536, 65536 + MAKER, Integer.MAX_VALUE};
        for (int maker : makers) {
            C.argument("maker " + maker, () -> x.ask(maker, REST, 0, 32, 80));
        }
        long[] rests = {Long.MIN_VALUE, -1, 4294967296L, 4294967296L + REST, Long.MAX_VALUE};
        for (long rest : rests) {
            C.argument("rest " + rest, () -> x.ask(MAKER, rest, 0, 32, 80));
        }
        C.due("maker 0", x.ask(0, REST, 0, 32, 80), LampLine.NONE);
        C.due("maker 65535", x.ask(65535, REST, 0, 32, 80), LampLine.NONE);
        C.due("rest 0", x.ask(MAKER, 0, 0, 32, 80), LampLine.NONE);
        C.due("rest 4294967294", x.ask(MAKER, 4294967294L, 0, 32, 80), LampLine.NONE);
        C.due("rest 4294967295", x.ask(MAKER, 4294967295L, 0, 32, 80), LampLine.NONE);
        C.due("frames()", x.frames(), 5);
    }

    private static void askedEdges() {
        LampLine x = line();
        int[] wrong = {Integer.MIN_VALUE, -1, 65536, Integer.MAX_VALUE};
        for (int it : wrong) {
            C.argument("part " + it, () -> x.ask(MAKER, REST, it, 32, 80));
            C.argument("matter " + it, () -> x.ask(MAKER, REST, 0, 32, it));
        }
        int[] wrongKinds = {Integer.MIN_VALUE, -1, 256, 256 + 32, Integer.MAX_VALUE};
        for (int it : wrongKinds) {
            C.argument("kind " + it, () -> x.ask(MAKER, REST, 0, it, 80));
        }
        C.due("part 65535", x.ask(MAKER, REST, 65535, 32, 80), 2);
        C.due("its PART", x.answer(18) * 256 + x.answer(19), 65535);
        C.due("matter 65535", x.ask(MAKER, REST, 0, 32, 65535), 2);
        C.due("its MATTER", x.answer(21) * 256 + x.answer(22), 65535);
        C.due("matter 0", x.ask(MAKER, REST, 0, 32, 0), 2);
        C.due("kind 0", x.ask(MAKER, REST, 0, 0, 80), LampLine.NONE);
        C.due("kind 255", x.ask(MAKER, REST, 0, 255, 80), LampLine.NONE);
        C.due("frames()", x.frames(), 5);
    }

    private static void refusedAskLeavesAll() {
        LampLine x = line();
        x.ask(MAKER, REST, 0, 32, 240);
        x.feed(0, 0, 0, 0, 0);
        x.spoil(0, 1);
        C.argument("a refused ask", () -> x.ask(MAKER, REST, 0, 32, 65536));
        C.argument("a refused ask", () -> x.ask(MAKER, REST, 0, 256, 80));
        C.argument("a refused ask", () -> x.ask(65536, REST, 0, 32, 80));
        C.due("no frame", x.frames(), 1);
        C.due("the latest ANSWER", x.answer(25), 10);
        C.due("no GET", x.about(0, 10), 1);
        x.end(20);
        x.end(0);
        C.due("what is set to be spoiled is", x.ask(MAKER, REST, 0, 32, 240), -2);
        C.due("its COUNT is the next", x.answer(15), 2);
    }

    private static void askedData() {
        int[] sizes = {0, 1, 230, 231, 232, 513, 520};
        for (int size : sizes) {
            LampLine x = line();
            Kit.tape(x, Kit.same(200, size));
            C.due("GET 240 of " + size, x.ask(MAKER, REST, 0, 32, 240), size == 0 ? 0 : 2);
            C.argument("the tape is empty then", () -> x.end(1));
            C.due("feed", x.feed(0, 0, 0, 0, 0), 20);
        }
        LampLine x = line();
        Kit.ask(x, MAKER, Kit.ALL_RESTS, Kit.SET, 130, Kit.bytes("The tape is the DATA, in order."));
        get(x, 130);
        C.due("DATA", Kit.data(x), Kit.bytes("The tape is the DATA, in order."));
        C.due("a tape that nobody hears", Kit.ask(x, 9, 9, Kit.SET, 130, 65), LampLine.NONE);
        C.argument("is empty then, too", () -> x.end(1));
    }

    private static void kinds() {
        LampLine x = line();
        C.due("done", get(x, 240), 0);
        C.due("LATER", set(x, 130, 'a'), 1);
        C.due("REFUSED", get(x, 1), 2);
        LampLine y = line();
        int[] kinds = {1, 3, 128, 255};
        for (int k = 0; k < kinds.length; k++) {
            int[] is = reply(1 + k);
            int[] other = Kit.checked(Kit.with(is, 16, kinds[k]));
            Kit.spoilInto(y, is, other);
            C.due("KIND " + kinds[k], get(y, 240), kinds[k]);
            C.due("its bytes", Kit.answer(y), other);
        }
    }

    private static int[] reply(int count) {
        return Kit.packet(Kit.SEARCHER, Kit.id(MAKER, REST), Kit.head(count, 0, 0, 0, 33, 240), 0, 10);
    }

    private static void otherAnswers() {
        for (int place = 0; place < 28; place++) {
            LampLine x = line();
            x.spoil(place, 128);
            C.due("byte " + place + " is another, CHECK is not", get(x, 240), -2);
        }
        int[] asked = {3, 8, 9, 14, 15};
        for (int place : asked) {
            LampLine x = line();
            Kit.spoilInto(x, reply(1), Kit.checked(Kit.with(reply(1), place, reply(1)[place] ^ 1)));
            C.due("byte " + place + " of a right packet is another", get(x, 240), -2);
        }
        int[] notAsked = {17, 18, 19, 20, 21, 22, 24, 25};
        for (int place : notAsked) {
            LampLine x = line();
            Kit.spoilInto(x, reply(1), Kit.checked(Kit.with(reply(1), place, reply(1)[place] ^ 1)));
            C.due("byte " + place + " of a right packet is not asked", get(x, 240), 0);
        }
        LampLine x = line();
        int[] all = Kit.joined(Kit.idBytes(0), Kit.idBytes(Kit.TO_ALL));
        C.due("24 bytes are no packet", Kit.ask(x, MAKER, REST, Kit.SEARCH, 1, all), -2);
        C.due("nor those to a CALL", Kit.ask(x, 65535, Kit.ALL_RESTS, Kit.SEARCH, 1, all), -2);
    }

    private static void noAnswer() {
        LampLine x = line();
        C.due("nobody of that rest", Kit.ask(x, MAKER, REST + 1, Kit.GET, 240), -1);
        C.due("nobody of that maker", Kit.ask(x, MAKER + 1, REST, Kit.GET, 240), -1);
        C.due("a CALL", Kit.ask(x, MAKER, Kit.ALL_RESTS, Kit.GET, 240), -1);
        C.due("another CLASS", Kit.ask(x, MAKER, REST, 33, 240), -1);
        C.due("the searcher itself", Kit.ask(x, 32766, 1, Kit.GET, 240), -1);
        // A lamp may have the searcher's ID: its reply is to the searcher as well.
        x.lamp(32766, 1, 1, 1, 1);
        C.due("a lamp of the searcher's ID", Kit.ask(x, 32766, 1, Kit.GET, 240), 0);
    }
}
