import java.util.Arrays;

/** SEARCH, THE SEARCH and promises 15 to 19: a test for each sentence that names a boundary case. */
public final class EdgeSearchTest {
    private static final Check C = new Check("EdgeSearchTest");
    private static final long LAST = 281474976710654L;
    private static final long LOW = Kit.id(5, 6);
    private static final long HIGH = Kit.id(5, 7);
    private static final int LEAST = Integer.MIN_VALUE;
    private static final int GREATEST = Integer.MAX_VALUE;

    public static void main(String[] args) {
        whatLampsDo();
        tries();
        steps();
        promises();
        C.finish();
    }

    private static void whatLampsDo() {
        C.sentence("SEARCH (PART is not asked)", EdgeSearchTest::partIsNotAsked);
        C.sentence("whose ID is not below the first, nor above the second, answers (also to a CALL) with 24 bytes",
                EdgeSearchTest::firstAndSecond);
        C.sentence("a lamp that is not SILENT", EdgeSearchTest::silentLamps);
        C.sentence("7 times 254, 170, then each of its ID's bytes b as b or 170, b or 85", EdgeSearchTest::echoes);
        C.sentence("MATTER 2 (no DATA): SILENT, reply with two bytes 0; 3: not SILENT, likewise.",
                EdgeSearchTest::hushAndWake);
        C.sentence("Others (and other SIZES): nothing.", EdgeSearchTest::otherMattersAndSizes);
    }

    private static void tries() {
        C.sentence("NOTHING: it is not there", EdgeSearchTest::nobodyThere);
        C.sentence("a right reply (a packet from it to the searcher, CLASS 17, MATTER 2, KIND 0, this COUNT)",
                EdgeSearchTest::repliesThatFind);
        C.sentence("it is FOUND (once)", EdgeSearchTest::foundOnce);
        C.sentence("another ANSWER: it is in DOUBT, and a SEARCH 3 is sent to it (whatever comes).",
                EdgeSearchTest::doubt);
        C.sentence("COUNT is one more each time (modulo 256, from 1 on)", EdgeSearchTest::countFromOne);
        C.sentence("COUNT is one more each time (modulo 256, from 1 on)", EdgeSearchTest::countBehind255);
    }

    private static void steps() {
        C.sentence("at first one of all IDs 0 .. 281474976710654, and a SEARCH 3 as a CALL to all is sent.",
                EdgeSearchTest::allIds);
        C.sentence("if both IDs are one, that is TRIED, and the branch is done, but not in DOUBT: it is the latest one again.",
                EdgeSearchTest::oneId);
        C.sentence("Else a SEARCH 1 with it is sent as a CALL to all. NOTHING: the branch is done.",
                EdgeSearchTest::nothingIsDone);
        C.sentence("An ANSWER that is right (24 bytes, the first eight as told, each pair's bytes with all bits of 170 and 85, the sum as told)",
                EdgeSearchTest::echoesThatAreNotRight);
        C.sentence("with an ID in the branch that is not FOUND yet: that is TRIED", EdgeSearchTest::idAtTheEdge);
        C.sentence("with an ID in the branch that is not FOUND yet: that is TRIED", EdgeSearchTest::idBesideTheBranch);
        C.sentence("with an ID in the branch that is not FOUND yet: that is TRIED", EdgeSearchTest::idThatIsFound);
        C.sentence("All else (that it is not there, too): the branch becomes two", EdgeSearchTest::idThatIsNotThere);
        C.sentence("low .. the middle (rounded down), and behind it .. high; the lower one is the latest.",
                EdgeSearchTest::halves);
        C.sentence("(An ID whose rest is 4294967295 is none: a branch of it alone is done, an ANSWER with it is all else.)",
                EdgeSearchTest::none);
    }

    private static void promises() {
        C.sentence("A search begins anew, nothing FOUND: 1.", EdgeSearchTest::anew);
        C.sentence("So many STEPS (1 .. 1000), as long as there are branches: how many branches there are then.",
                EdgeSearchTest::asLongAsThereAreBranches);
        C.sentence("So many STEPS (1 .. 1000), as long as there are branches: how many branches there are then.",
                EdgeSearchTest::thousandSteps);
        C.sentence("IllegalStateException: no search; IllegalArgumentException: n.", EdgeSearchTest::wrongSteps);
        C.sentence("How many are FOUND.", EdgeSearchTest::howManyAreFound);
        C.sentence("The i-th ID that was FOUND (from 0), as one number. IndexOutOfBoundsException.",
                EdgeSearchTest::ids);
        C.sentence("of the search: 2 how many STEPS it took.", EdgeSearchTest::stepsItTook);
        C.sentence("IndexOutOfBoundsException: another what, no branch (0, 1).", EdgeSearchTest::wrongBranches);
    }

    private static int[] span(long low, long high) {
        return Kit.joined(Kit.idBytes(low), Kit.idBytes(high));
    }

    private static int callAll(LampLine x, long low, long high) {
        return Kit.ask(x, 65535, Kit.ALL_RESTS, Kit.SEARCH, 1, span(low, high));
    }

    private static LampLine line(long... ids) {
        LampLine x = new LampLine();
        for (long id : ids) {
            x.lamp((int) (id >> 32), id & Kit.ALL_RESTS, 1, 1, 1);
        }
        return x;
    }

    private static void partIsNotAsked() {
        int[] parts = {0, 1, 255, 65534, 65535};
        LampLine x = line(LOW);
        for (int part : parts) {
            C.due("SEARCH 1 of PART " + part, Kit.askPart(x, 5, 6, part, Kit.SEARCH, 1, span(0, LAST)), -2);
            C.due("SEARCH 2 of PART " + part, Kit.askPart(x, 5, 6, part, Kit.SEARCH, 2), 0);
            C.due("its PART", x.answer(18) * 256 + x.answer(19), part);
            C.due("SEARCH 3 of PART " + part, Kit.askPart(x, 5, 6, part, Kit.SEARCH, 3), 0);
        }
    }

    private static void firstAndSecond() {
        long[] ids = {Kit.id(1, 0), LOW, Kit.id(32767, 4294967294L)};
        for (long id : ids) {
            LampLine x = line(id);
            C.due("the ID alone", callAll(x, id, id), -2);
            C.due("24 bytes", Kit.answer(x), Kit.echo(id));
            C.due("from it on", callAll(x, id, Kit.TO_ALL), -2);
            C.due("up to it", callAll(x, 0, id), -2);
            C.due("all there are", callAll(x, 0, Kit.TO_ALL), -2);
            C.due("behind it", callAll(x, id + 1, Kit.TO_ALL), LampLine.NONE);
            C.due("before it", callAll(x, 0, id - 1), LampLine.NONE);
            C.due("from behind to before", callAll(x, id + 1, id - 1), LampLine.NONE);
            C.due("from all to none", callAll(x, Kit.TO_ALL, 0), LampLine.NONE);
            C.due("by its ID", Kit.ask(x, (int) (id >> 32), id & Kit.ALL_RESTS, Kit.SEARCH, 1, span(id, id)), -2);
            C.due("by its ID, behind it", Kit.ask(x, (int) (id >> 32), id & Kit.ALL_RESTS, Kit.SEARCH, 1,
                    span(id + 1, id + 1)), LampLine.NONE);
        }
    }

    private static void silentLamps() {
        LampLine x = line(LOW, HIGH);
        C.due("both", callAll(x, 0, LAST), -2);
        C.due("their bytes", Kit.answer(x), Kit.together(LOW, HIGH));
        x.silence(0, true);
        callAll(x, 0, LAST);
        C.due("one is SILENT", Kit.answer(x), Kit.echo(HIGH));
        x.silence(1, true);
        C.due("both are SILENT", callAll(x, 0, LAST), LampLine.NONE);
        C.due("by its ID", Kit.ask(x, 5, 6, Kit.SEARCH, 1, span(0, LAST)), LampLine.NONE);
        C.due("SEARCH 2 to a SILENT one", Kit.ask(x, 5, 6, Kit.SEARCH, 2), 0);
        C.due("GET to a SILENT one", Kit.ask(x, 5, 6, Kit.GET, 80), 0);
        x.silence(0, false);
        callAll(x, 0, LAST);
        C.due("one is not SILENT again", Kit.answer(x), Kit.echo(LOW));
    }

    private static void echoes() {
        LampLine x = line(Kit.id(1, 0));
        callAll(x, 0, LAST);
        C.due("the least ID", Kit.answer(x), 254, 254, 254, 254, 254, 254, 254, 170,
                170, 85, 171, 85, 170, 85, 170, 85, 170, 85, 170, 85, 175, 85, 251, 255);
        LampLine y = line(Kit.id(32767, 4294967294L));
        callAll(y, 0, LAST);
        C.due("the greatest ID", Kit.answer(y), 254, 254, 254, 254, 254, 254, 254, 170,
                255, 127, 255, 255, 255, 255, 255, 255, 255, 255, 254, 255, 171, 95, 251, 119);
    }

    private static void hushAndWake() {
        LampLine x = line(LOW, HIGH);
        int[] matters = {3, 2, 2, 3, 3};
        for (int k = 0; k < matters.length; k++) {
            C.due("SEARCH " + matters[k], Kit.ask(x, 5, 6, Kit.SEARCH, matters[k]), 0);
            C.due("its reply", Kit.answer(x), Kit.packet(Kit.SEARCHER, LOW,
                    Kit.head(k + 1, 0, 0, 0, 17, matters[k]), 0, 0));
            C.due("SILENT", x.about(0, 5), matters[k] == 2 ? 1 : 0);
            C.due("the other lamp", x.about(1, 5), 0);
        }
    }

    private static void otherMattersAndSizes() {
        int[] matters = {0, 4, 5, 255, 256, 257, 258, 259, 65535};
        LampLine x = line(LOW);
        for (int matter : matters) {
            C.due("MATTER " + matter, Kit.ask(x, 5, 6, Kit.SEARCH, matter), LampLine.NONE);
            C.due("MATTER " + matter + " of 12", Kit.ask(x, 5, 6, Kit.SEARCH, matter, span(0, LAST)), LampLine.NONE);
        }
        int[] sizes = {0, 1, 6, 11, 13, 24, 231};
        for (int size : sizes) {
            C.due("MATTER 1 of " + size, Kit.ask(x, 65535, Kit.ALL_RESTS, Kit.SEARCH, 1,
                    Arrays.copyOf(Kit.joined(span(0, Kit.TO_ALL), Kit.same(255, 231)), size)), LampLine.NONE);
        }
        LampLine y = line(LOW, HIGH);
        y.silence(1, true);
        int[] more = {1, 2, 12};
        for (int size : more) {
            C.due("MATTER 2 of " + size, Kit.ask(y, 5, 6, Kit.SEARCH, 2, new int[size]), LampLine.NONE);
            C.due("MATTER 3 of " + size, Kit.ask(y, 5, 7, Kit.SEARCH, 3, new int[size]), LampLine.NONE);
            C.due("it is not SILENT", y.about(0, 5), 0);
            C.due("it is SILENT", y.about(1, 5), 1);
        }
    }

    private static void nobodyThere() {
        LampLine x = line(LOW);
        x.search();
        Kit.narrow(x, LOW, LOW);
        int branches = x.step(1);
        C.due("the lower one is there", x.found(), 1);
        C.due("the upper one alone", x.branch(0), HIGH);
        C.due("the upper one alone", x.branch(1), HIGH);
        int frames = x.frames();
        C.due("it is not there: the branch is done", x.step(1), branches - 1);
        C.due("one frame", x.frames(), frames + 1);
        C.due("not FOUND", x.found(), 1);
    }

    /** The reply to a SEARCH 2 in the next frame, all frames before being the searcher's own. */
    private static int[] nextReply(LampLine x) {
        return Kit.packet(Kit.SEARCHER, LOW, Kit.head((x.frames() + 1) % 256, 0, 0, 0, 17, 2), 0, 0);
    }

    private static void repliesThatFind() {
        int[] asked = {3, 4, 8, 9, 10, 14, 15, 16, 20, 21, 22};
        for (int place : asked) {
            found("byte " + place + " is another", place, 1, 0);
        }
        found("KIND 2", 16, 2, 0);
        found("COUNT far", 15, 128, 0);
        int[] notAsked = {17, 18, 19, 24, 25};
        for (int place : notAsked) {
            found("byte " + place + " is not asked", place, 1, 1);
        }
        LampLine x = line(LOW);
        x.search();
        Kit.narrow(x, LOW, LOW);
        x.spoil(27, 1);
        x.step(1);
        C.due("a CHECK that is not right", x.found(), 0);
    }

    private static void found(String call, int place, int mask, int due) {
        LampLine x = line(LOW);
        x.search();
        Kit.narrow(x, LOW, LOW);
        int[] is = nextReply(x);
        Kit.spoilInto(x, is, Kit.checked(Kit.with(is, place, is[place] ^ mask)));
        x.step(1);
        C.due(call, x.found(), due);
        C.due(call + ": SILENT", x.about(0, 5), due);
    }

    private static void foundOnce() {
        LampLine x = line(LOW);
        x.search();
        x.step(1);
        C.due("FOUND", x.found(), 1);
        x.silence(0, false);
        Kit.narrow(x, LOW, LOW);
        int frames = x.frames();
        x.step(1);
        C.due("it is TRIED again", x.frames(), frames + 1);
        C.due("and SILENT again", x.about(0, 5), 1);
        C.due("but FOUND once", x.found(), 1);
        C.index("id(1)", () -> x.id(1));
    }

    private static void doubt() {
        LampLine x = line(LOW, Kit.id(9, 9));
        x.search();
        x.silence(1, true);
        Kit.narrow(x, LOW, LOW);
        int frames = x.frames();
        x.spoil(0, 1);
        x.step(1);
        C.due("not FOUND", x.found(), 0);
        C.due("a SEARCH 2 and a SEARCH 3", x.frames(), frames + 2);
        C.due("the reply to it", Kit.answer(x), Kit.packet(Kit.SEARCHER, LOW,
                Kit.head((frames + 2) % 256, 0, 0, 0, 17, 3), 0, 0));
        C.due("it is not SILENT", x.about(0, 5), 0);
        C.due("it goes to none else", x.about(1, 5), 1);
    }

    private static void countFromOne() {
        LampLine x = line(LOW);
        x.ask(5, 6, 0, Kit.GET, 80);
        C.due("the first one", x.answer(15), 1);
        x.search();
        x.step(1);
        C.due("SEARCH 3, SEARCH 1, then this", x.answer(15), 4);
        x.ask(5, 6, 0, Kit.GET, 80);
        C.due("then this", x.answer(15), 5);
        x.search();
        x.ask(5, 6, 0, Kit.GET, 80);
        C.due("a search anew does not begin anew", x.answer(15), 7);
        x.send();
        x.ask(5, 6, 0, Kit.GET, 80);
        C.due("a frame of the tape has none", x.answer(15), 8);
    }

    private static void countBehind255() {
        int[] before = {252, 253, 254, 255};
        for (int asks : before) {
            LampLine x = line(LOW);
            for (int k = 0; k < asks; k++) {
                x.ask(5, 6, 0, Kit.GET, 80);
            }
            C.due("COUNT " + asks, x.answer(15), asks);
            x.search();
            x.step(1);
            C.due("COUNT " + (asks + 3), x.answer(15), (asks + 3) % 256);
            C.due("it is FOUND", x.found(), 1);
            C.due("a reply of the next COUNT", x.ask(5, 6, 0, Kit.GET, 80), 0);
            C.due("COUNT " + (asks + 4), x.answer(15), (asks + 4) % 256);
        }
    }

    private static void allIds() {
        LampLine x = line(LOW, Kit.id(32767, 4294967294L), Kit.id(1, 0));
        for (int k = 0; k < 3; k++) {
            x.silence(k, true);
        }
        C.due("search()", x.search(), 1);
        C.due("the least", x.branch(0), 0);
        C.due("the greatest", x.branch(1), LAST);
        C.due("one frame", x.frames(), 1);
        C.index("NOTHING", () -> x.answer(0));
        for (int k = 0; k < 3; k++) {
            C.due("lamp " + k + " is not SILENT", x.about(k, 5), 0);
        }
    }

    private static void oneId() {
        LampLine x = line(LOW);
        x.search();
        Kit.narrow(x, LOW, LOW);
        long steps = x.branch(2);
        int branches = 0;
        for (int k = 0; k < 3; k++) {
            x.spoil(k, 255);
            branches = x.step(1);
            C.due("in DOUBT, it is the latest one again", x.branch(0), LOW);
            C.due("in DOUBT, it is the latest one again", x.branch(1), LOW);
            C.due("in DOUBT, it is not FOUND", x.found(), 0);
        }
        int frames = x.frames();
        C.due("FOUND, it is done", x.step(1), branches - 1);
        C.due("one frame, to it alone", x.frames(), frames + 1);
        C.due("FOUND", x.found(), 1);
        C.due("each was a STEP", x.branch(2), steps + 4);
    }

    private static void nothingIsDone() {
        LampLine x = line();
        x.search();
        C.due("a line without lamps", x.step(1), 0);
        C.due("one frame for it", x.frames(), 2);
        LampLine y = line(LOW, Kit.id(32767, 0));
        y.search();
        y.silence(0, true);
        y.silence(1, true);
        C.due("lamps that are SILENT", y.step(1), 0);
        C.due("none is FOUND", y.found(), 0);
    }

    private static void echoesThatAreNotRight() {
        for (int place = 0; place < 24; place++) {
            for (int bit = 0; bit < 8; bit++) {
                LampLine x = line(LOW);
                x.search();
                x.spoil(place, 1 << bit);
                C.due("bit " + bit + " of byte " + place, x.step(1), 2);
                C.due("nothing is TRIED", x.frames(), 2);
            }
        }
        // The ID and the sum stay when one bit goes from the one byte of a pair to the other.
        for (int place = 8; place < 20; place += 2) {
            LampLine x = line(LOW);
            x.search();
            x.spoil(place, 128);
            x.spoil(place + 1, 128);
            C.due("byte " + place + " without all bits of 170", x.step(1), 2);
            C.due("nothing is TRIED", x.frames(), 2);
            LampLine y = line(LOW);
            y.search();
            y.spoil(place, 64);
            y.spoil(place + 1, 64);
            C.due("byte " + place + " without all bits of 85", y.step(1), 2);
            C.due("nothing is TRIED", y.frames(), 2);
        }
        LampLine z = line(LOW);
        z.search();
        z.spoil(24, 255);
        C.due("a byte that it has not", z.step(1), 1);
        C.due("it is FOUND", z.found(), 1);
    }

    private static LampLine branchOfTwo(long lamp) {
        LampLine x = line(lamp);
        x.search();
        Kit.narrow(x, LOW, HIGH);
        return x;
    }

    private static void idAtTheEdge() {
        long[] lamps = {LOW, HIGH};
        for (long lamp : lamps) {
            LampLine x = branchOfTwo(lamp);
            x.step(1);
            C.due("it is FOUND", x.id(0), lamp);
            C.due("the branch as it was", x.branch(0), LOW);
            C.due("the branch as it was", x.branch(1), HIGH);
            C.due("it is SILENT", x.about(0, 5), 1);
        }
        LampLine y = line(Kit.id(1, 0));
        y.search();
        Kit.spoilInto(y, Kit.echo(Kit.id(1, 0)), Kit.echo(LAST));
        y.step(1);
        C.due("the last ID of all is in the first branch", y.frames(), 3);
        LampLine z = line(Kit.id(1, 0));
        z.search();
        Kit.spoilInto(z, Kit.echo(Kit.id(1, 0)), Kit.echo(0));
        z.step(1);
        C.due("ID 0 is in the first branch", z.frames(), 3);
    }

    private static void idBesideTheBranch() {
        long[] beside = {LOW - 1, HIGH + 1, Kit.id(1, 6), Kit.id(32767, 7), 0, LAST};
        for (long id : beside) {
            LampLine x = branchOfTwo(LOW);
            int frames = x.frames();
            Kit.spoilInto(x, Kit.echo(LOW), Kit.echo(id));
            x.step(1);
            C.due("an ANSWER with " + id, Kit.answer(x), Kit.echo(id));
            C.due("is not TRIED", x.frames(), frames + 1);
            C.due("the branch becomes two", x.branch(1), LOW);
        }
        // Even a lamp that is there is not TRIED out of its branch.
        LampLine y = line(LOW, HIGH + 1);
        y.search();
        Kit.narrow(y, LOW, HIGH);
        Kit.spoilInto(y, Kit.echo(LOW), Kit.echo(HIGH + 1));
        y.step(1);
        C.due("none is FOUND", y.found(), 0);
    }

    private static void idThatIsFound() {
        LampLine x = branchOfTwo(LOW);
        x.step(1);
        C.due("it is FOUND", x.found(), 1);
        x.silence(0, false);
        int frames = x.frames();
        x.step(1);
        C.due("it is not TRIED", x.frames(), frames + 1);
        C.due("the branch becomes two", x.branch(1), LOW);
        C.due("it is not SILENT", x.about(0, 5), 0);
    }

    private static void idThatIsNotThere() {
        LampLine x = branchOfTwo(LOW);
        int frames = x.frames();
        Kit.spoilInto(x, Kit.echo(LOW), Kit.echo(HIGH));
        x.step(1);
        C.due("it is TRIED", x.frames(), frames + 2);
        C.due("it is not FOUND", x.found(), 0);
        C.due("the branch becomes two: the lower one", x.branch(0), LOW);
        C.due("the branch becomes two: the lower one", x.branch(1), LOW);
        x.step(1);
        C.due("the lower one is FOUND", x.id(0), LOW);
        C.due("the upper one", x.branch(0), HIGH);
        C.due("the upper one", x.branch(1), HIGH);
    }

    private static void halves() {
        LampLine x = line(Kit.id(1, 0), Kit.id(32767, 4294967294L));
        x.search();
        x.spoil(0, 255);
        C.due("two", x.step(1), 2);
        C.due("the lower half", x.branch(0), 0);
        C.due("up to the middle", x.branch(1), 140737488355327L);
        x.spoil(0, 255);
        C.due("three", x.step(1), 3);
        C.due("the lower half of that", x.branch(0), 0);
        C.due("up to its middle, rounded down", x.branch(1), 70368744177663L);
        C.due("a lamp is FOUND", x.step(1), 3);
        C.due("the branch is done", x.step(1), 2);
        C.due("behind that middle", x.branch(0), 70368744177664L);
        C.due("up to the first one", x.branch(1), 140737488355327L);
        C.due("a lamp is FOUND, the branch is done", x.step(2), 1);
        C.due("behind the first middle", x.branch(0), 140737488355328L);
        C.due("up to the greatest ID", x.branch(1), LAST);
        C.due("the branch is done", x.step(1), 0);
        C.due("both are FOUND", x.found(), 2);
    }

    private static void none() {
        long last = Kit.id(5, 4294967294L);
        long none = Kit.id(5, 4294967295L);
        LampLine x = line(last, Kit.id(5, 3));
        x.search();
        x.silence(1, true);
        Kit.narrow(x, last, none);
        x.silence(1, false);
        Kit.spoilInto(x, Kit.echo(last), Kit.echo(none));
        int frames = x.frames();
        x.step(1);
        C.due("an ANSWER with it", Kit.answer(x), Kit.echo(none));
        C.due("is not TRIED", x.frames(), frames + 1);
        C.due("the branch becomes two", x.branch(1), last);
        int branches = x.step(1);
        C.due("the lower one is FOUND", x.id(0), last);
        C.due("a branch of it alone", x.branch(0), none);
        C.due("a branch of it alone", x.branch(1), none);
        frames = x.frames();
        long steps = x.branch(2);
        C.due("is done", x.step(1), branches - 1);
        C.due("without a frame", x.frames(), frames);
        C.due("by a STEP", x.branch(2), steps + 1);
        C.due("all lamps of that MAKER are as they were", x.about(1, 5), 0);
    }

    private static void anew() {
        LampLine x = line(LOW, Kit.id(32767, 0));
        C.due("the first", x.search(), 1);
        C.due("three branches", x.step(3), 3);
        C.due("one is FOUND", x.found(), 1);
        C.due("anew", x.search(), 1);
        C.due("nothing FOUND", x.found(), 0);
        C.index("id(0)", () -> x.id(0));
        C.due("the least ID", x.branch(0), 0);
        C.due("the greatest ID", x.branch(1), LAST);
        C.due("no STEPS", x.branch(2), 0);
        C.due("those that were FOUND are not SILENT", x.about(0, 5), 0);
        C.due("all of it", x.step(1000), 0);
        C.due("both are FOUND", x.found(), 2);
        C.due("anew when there is no branch", x.search(), 1);
        C.due("nothing FOUND", x.found(), 0);
    }

    private static void asLongAsThereAreBranches() {
        LampLine x = line(LOW);
        x.search();
        C.due("step(1)", x.step(1), 1);
        C.due("one STEP", x.branch(2), 1);
        C.due("step(2) with one to take", x.step(2), 0);
        C.due("two STEPS", x.branch(2), 2);
        int frames = x.frames();
        C.due("step(1) without branches", x.step(1), 0);
        C.due("step(1000) without branches", x.step(1000), 0);
        C.due("two STEPS still", x.branch(2), 2);
        C.due("no frame", x.frames(), frames);
    }

    /** Twelve pairs of neighbours whose echoes together are not right: each is halved down to single IDs. */
    private static LampLine pairs() {
        int[] rests = {0, 256, 256, 256, 0, 0, 0, 256, 256, 256, 0, 0};
        LampLine x = new LampLine();
        for (int k = 0; k < 12; k++) {
            x.lamp(1 + 2731 * k, rests[k], 1, 1, 1);
            x.lamp(1 + 2731 * k, rests[k] + 1, 1, 1, 1);
        }
        return x;
    }

    private static void thousandSteps() {
        LampLine x = pairs();
        x.search();
        int branches = x.step(1000);
        C.due("there are branches still", branches > 0 ? 1 : 0, 1);
        C.due("1000 STEPS", x.branch(2), 1000);
        C.due("step(1000) again", x.step(1000), 0);
        C.due("some STEPS more", x.branch(2) > 1000 && x.branch(2) < 1100 ? 1 : 0, 1);
        C.due("all are FOUND", x.found(), 24);
    }

    private static void wrongSteps() {
        LampLine x = line(LOW);
        C.state("step(1) without a search", () -> x.step(1));
        C.state("step(1000) without a search", () -> x.step(1000));
        x.search();
        int[] wrong = {LEAST, -1, 0, 1001, GREATEST};
        for (int n : wrong) {
            C.argument("step(" + n + ")", () -> x.step(n));
        }
        C.due("no STEPS", x.branch(2), 0);
        C.due("no frame", x.frames(), 1);
        C.due("step(1000)", x.step(1000), 0);
        for (int n : wrong) {
            C.argument("step(" + n + ") without branches", () -> x.step(n));
        }
    }

    private static void howManyAreFound() {
        LampLine x = pairs();
        C.due("no search", x.found(), 0);
        x.search();
        C.due("a new search", x.found(), 0);
        x.step(1000);
        x.step(1000);
        C.due("24", x.found(), 24);
        long before = -1;
        for (int i = 0; i < 24; i++) {
            C.due("the lower ones are FOUND first", x.id(i) > before ? 1 : 0, 1);
            before = x.id(i);
        }
        C.index("id(24)", () -> x.id(24));
    }

    private static void ids() {
        LampLine x = line(Kit.id(32767, 4294967294L), Kit.id(1, 0), Kit.id(1, 2147483648L));
        C.index("id(0) without a search", () -> x.id(0));
        x.search();
        C.index("id(0) of nothing FOUND", () -> x.id(0));
        x.step(1000);
        C.due("found()", x.found(), 3);
        C.due("id(0)", x.id(0), 4294967296L);
        C.due("id(1)", x.id(1), 6442450944L);
        C.due("id(2)", x.id(2), 140737488355326L);
        int[] wrong = {LEAST, -1, 3, 4, 24, GREATEST};
        for (int i : wrong) {
            C.index("id(" + i + ")", () -> x.id(i));
        }
    }

    private static void stepsItTook() {
        LampLine x = line(LOW);
        x.search();
        C.due("none", x.branch(2), 0);
        x.step(1);
        C.due("one", x.branch(2), 1);
        x.step(1);
        C.due("two", x.branch(2), 2);
        C.index("there is no branch then", () -> x.branch(0));
        x.search();
        C.due("none of a new search", x.branch(2), 0);
    }

    private static void wrongBranches() {
        LampLine x = line();
        int[] wrong = {LEAST, -1, 3, 4, GREATEST};
        for (int what : wrong) {
            C.index("branch(" + what + ") without a search", () -> x.branch(what));
        }
        C.index("branch(0) without a search", () -> x.branch(0));
        C.index("branch(1) without a search", () -> x.branch(1));
        x.search();
        for (int what : wrong) {
            C.index("branch(" + what + ")", () -> x.branch(what));
        }
        C.due("branch(0)", x.branch(0), 0);
        C.due("branch(1)", x.branch(1), LAST);
        x.step(1);
        C.index("branch(0) without a branch", () -> x.branch(0));
        C.index("branch(1) without a branch", () -> x.branch(1));
        C.due("branch(2) without a branch", x.branch(2), 1);
    }
}
