/** Promises 7, 13: ask, and what lamps do with GET and SET; labels. */
public final class OrderTest {
    private static final Check C = new Check("OrderTest");
    private static final int MAKER = 7;
    private static final long REST = 0x1234ABCDL;

    public static void main(String[] args) {
        asked();
        askedWrongly();
        askedForData();
        counts();
        gets();
        parts();
        refusedMatters();
        refusedSizes();
        refusedValues();
        sets();
        calls();
        labelLater();
        fourWait();
        waitingReplies();
        labelsByCall();
        labelBytes();
        C.finish();
    }

    private static LampLine line() {
        LampLine x = new LampLine();
        x.lamp(MAKER, REST, 3, 4, 10);
        return x;
    }

    private static int get(LampLine x, int matter, int... data) {
        return Kit.ask(x, MAKER, REST, Kit.GET, matter, data);
    }

    private static int set(LampLine x, int matter, int... data) {
        return Kit.ask(x, MAKER, REST, Kit.SET, matter, data);
    }

    private static void refused(String call, LampLine x, int kind, int reason) {
        C.due(call, kind, 2);
        C.due(call + ": reason", Kit.data(x), 0, reason);
    }

    private static void asked() {
        LampLine x = line();
        C.due("GET", get(x, 240), 0);
        C.due("its reply", Kit.answer(x),
                Kit.packet(Kit.SEARCHER, Kit.id(MAKER, REST), Kit.head(1, 0, 0, 0, 33, 240), 0, 10));
        C.due("LATER", set(x, 130, 65), 1);
        C.due("REFUSED", get(x, 1), 2);
        C.due("nobody there", Kit.ask(x, MAKER, REST + 1, Kit.GET, 240), LampLine.NONE);
        C.due("a CALL", Kit.ask(x, MAKER, Kit.ALL_RESTS, Kit.GET, 240), LampLine.NONE);
        C.due("another CLASS", Kit.ask(x, MAKER, REST, 33, 240), LampLine.NONE);
        C.due("a SEARCH 1 has an answer that is no packet", Kit.ask(x, MAKER, REST, Kit.SEARCH, 1,
                Kit.joined(Kit.idBytes(0), Kit.idBytes(Kit.TO_ALL))), -2);
        C.due("SEARCH 2", Kit.ask(x, MAKER, REST, Kit.SEARCH, 2), 0);
        C.due("frames()", x.frames(), 8);
        int[] is = Kit.packet(Kit.SEARCHER, Kit.id(MAKER, REST), Kit.head(9, 0, 1, 0, 33, 240), 0, 10);
        int[][] others = {Kit.with(is, 27, is[27] ^ 1), Kit.checked(Kit.with(is, 3, 126)),
            Kit.checked(Kit.with(is, 14, is[14] ^ 1)), Kit.checked(Kit.with(is, 15, is[15] + 1))};
        for (int k = 0; k < others.length; k++) {
            is[15] = 9 + k;
            others[k][15] += k;
            is = Kit.checked(is);
            others[k] = k == 0 ? others[k] : Kit.checked(others[k]);
            Kit.spoilInto(x, is, others[k]);
            C.due("spoiled reply " + k, get(x, 240), -2);
            C.due("its bytes", Kit.answer(x), others[k]);
        }
        is[15] = 13;
        is = Kit.checked(is);
        int[] kind = Kit.checked(Kit.with(is, 16, 255));
        Kit.spoilInto(x, is, kind);
        C.due("a right reply of another KIND", get(x, 240), 255);
        C.due("its bytes", Kit.answer(x), kind);
    }

    private static void askedWrongly() {
        LampLine x = line();
        Kit.tape(x, 1, 2, 3);
        C.argument("maker -1", () -> x.ask(-1, REST, 0, 32, 80));
        C.argument("maker 65536", () -> x.ask(65536, REST, 0, 32, 80));
        C.argument("rest -1", () -> x.ask(MAKER, -1, 0, 32, 80));
        C.argument("rest 4294967296", () -> x.ask(MAKER, 4294967296L, 0, 32, 80));
        C.argument("part -1", () -> x.ask(MAKER, REST, -1, 32, 80));
        C.argument("part 65536", () -> x.ask(MAKER, REST, 65536, 32, 80));
        C.argument("kind -1", () -> x.ask(MAKER, REST, 0, -1, 80));
        C.argument("kind 256", () -> x.ask(MAKER, REST, 0, 256, 80));
        C.argument("matter -1", () -> x.ask(MAKER, REST, 0, 32, -1));
        C.argument("matter 65536", () -> x.ask(MAKER, REST, 0, 32, 65536));
        C.due("frames()", x.frames(), 0);
        x.end(3);
        C.due("the edges", x.ask(0, 0, 0, 0, 0), LampLine.NONE);
        C.argument("the tape is empty", () -> x.end(1));
        C.due("the edges", x.ask(65535, 4294967295L, 65535, 255, 65535), LampLine.NONE);
        C.due("frames()", x.frames(), 2);
        get(x, 240);
        C.due("wrong asks have no COUNT", x.answer(15), 3);
    }

    private static void askedForData() {
        LampLine x = line();
        Kit.tape(x, Kit.same(66, 520));
        C.due("DATA of 231 bytes is a right packet", x.ask(MAKER, REST, 0, 32, 240), 2);
        C.due("its reason", Kit.data(x), 0, 1);
        C.argument("the tape is empty", () -> x.end(1));
    }

    private static void counts() {
        LampLine x = line();
        for (int k = 1; k <= 258; k++) {
            x.ask(MAKER, REST, 0, Kit.GET, 4096);
            if (k < 3 || k > 253) {
                C.due("COUNT of ask " + k, x.answer(15), k % 256);
            }
        }
        x.search();
        get(x, 4096);
        C.due("COUNT goes on over a search", x.answer(15), 260 % 256);
        C.due("GETS and SETS", x.about(0, 10), 259);
        get(x, 96);
        C.due("GETS and SETS of 96", new int[] {Kit.data(x)[14], Kit.data(x)[15]}, 1, 4);
    }

    private static void gets() {
        LampLine x = line();
        C.due("GET 80", get(x, 80), 0);
        C.due("its data", Kit.data(x), 0, 80, 0, 96, 0, 128, 0, 130, 0, 224, 0, 240, 16, 0, 0, 32);
        C.due("GET 96", get(x, 96), 0);
        C.due("its data", Kit.data(x), 0, 7, 0x12, 0x34, 0xAB, 0xCD, 0, 3, 1, 4, 0, 10, 0, 0, 0, 2);
        C.due("GET 128", get(x, 128), 0);
        C.due("its data", Kit.data(x), Kit.bytes("LAMP1234ABCD"));
        C.due("GET 130", get(x, 130), 0);
        C.due("its data", Kit.data(x));
        C.due("GET 224", get(x, 224), 0);
        C.due("its data", Kit.data(x), 1, 4);
        C.due("GET 240", get(x, 240), 0);
        C.due("its data", Kit.data(x), 0, 10);
        C.due("GET 4096", get(x, 4096), 0);
        C.due("its data", Kit.data(x), 0);
        C.due("GET 32", get(x, 32, 99), 0);
        C.due("its reply", Kit.answer(x),
                Kit.packet(Kit.SEARCHER, Kit.id(MAKER, REST), Kit.head(8, 0, 0, 0, 33, 32)));
        LampLine y = new LampLine();
        y.lamp(32767, 4294967294L, 64, 8, 1);
        Kit.ask(y, 32767, 4294967294L, Kit.SET, 224, 8);
        Kit.ask(y, 32767, 4294967294L, Kit.GET, 96);
        C.due("GET 96", Kit.data(y), 127, 255, 255, 255, 255, 254, 2, 0, 8, 8, 0, 1, 0, 0, 0, 2);
        Kit.ask(y, 32767, 4294967294L, Kit.GET, 128);
        C.due("GET 128", Kit.data(y), Kit.bytes("LAMPFFFFFFFE"));
    }

    private static void parts() {
        LampLine x = line();
        refused("GET of part 1", x, Kit.askPart(x, MAKER, REST, 1, Kit.GET, 240), 9);
        C.due("PART of the reply", new int[] {x.answer(18), x.answer(19)}, 0, 1);
        refused("GET of all parts", x, Kit.askPart(x, MAKER, REST, 65535, Kit.GET, 240), 9);
        C.due("PART of the reply", new int[] {x.answer(18), x.answer(19)}, 255, 255);
        refused("SET of part 256", x, Kit.askPart(x, MAKER, REST, 256, Kit.SET, 4096, 1), 9);
        refused("SET of part 65534", x, Kit.askPart(x, MAKER, REST, 65534, Kit.SET, 4096, 1), 9);
        C.due("it was not set", x.about(0, 6), 0);
        C.due("SET of all parts", Kit.askPart(x, MAKER, REST, 65535, Kit.SET, 4096, 1), 0);
        C.due("it was set", x.about(0, 6), 1);
        refused("the part goes before the matter", x, Kit.askPart(x, MAKER, REST, 2, Kit.GET, 1), 9);
        C.due("refused ones are counted", x.about(0, 10), 6);
        C.due("SEARCH does not ask PART", Kit.askPart(x, MAKER, REST, 513, Kit.SEARCH, 2), 0);
        C.due("its reply", Kit.answer(x),
                Kit.packet(Kit.SEARCHER, Kit.id(MAKER, REST), Kit.head(7, 0, 0, 513, 17, 2), 0, 0));
    }

    private static void refusedMatters() {
        LampLine x = line();
        int[] unknown = {0, 1, 31, 33, 79, 81, 97, 129, 131, 225, 241, 4095, 4097, 65535};
        for (int matter : unknown) {
            refused("GET " + matter, x, get(x, matter), 0);
            refused("SET " + matter, x, set(x, matter, 1, 2, 3), 0);
        }
        int[] fixed = {80, 96, 128, 32};
        for (int matter : fixed) {
            refused("SET " + matter, x, set(x, matter), 5);
            refused("SET with a SIZE " + matter, x, set(x, matter, 1, 2, 3), 5);
        }
    }

    private static void refusedSizes() {
        LampLine x = line();
        int[] matters = {80, 96, 128, 130, 224, 240, 4096};
        for (int matter : matters) {
            refused("GET with a byte " + matter, x, get(x, matter, 0), 1);
        }
        refused("GET 32 without", x, get(x, 32), 1);
        refused("GET 32 with two", x, get(x, 32, 0, 0), 1);
        refused("SET 130", x, set(x, 130, Kit.same(65, 33)), 1);
        refused("SET 130 of wrong bytes", x, set(x, 130, Kit.same(0, 33)), 1);
        refused("SET 224 without", x, set(x, 224), 1);
        refused("SET 224 with two", x, set(x, 224, 1, 1), 1);
        refused("SET 240 with one", x, set(x, 240, 1), 1);
        refused("SET 240 with three", x, set(x, 240, 0, 1, 1), 1);
        refused("SET 4096 without", x, set(x, 4096), 1);
        refused("SET 4096 with two", x, set(x, 4096, 1, 1), 1);
    }

    private static void refusedValues() {
        LampLine x = line();
        refused("mode 0", x, set(x, 224, 0), 6);
        refused("mode 5", x, set(x, 224, 5), 6);
        refused("mode 255", x, set(x, 224, 255), 6);
        refused("address 0", x, set(x, 240, 0, 0), 6);
        refused("address 511", x, set(x, 240, 1, 255), 6);
        refused("address 513", x, set(x, 240, 2, 1), 6);
        refused("address 65535", x, set(x, 240, 255, 255), 6);
        refused("shows 2", x, set(x, 4096, 2), 6);
        refused("label 31", x, set(x, 130, 65, 31), 6);
        refused("label 127", x, set(x, 130, 127, 65), 6);
        refused("label 255", x, set(x, 130, 255), 6);
        C.due("mode", x.about(0, 2), 1);
        C.due("address", x.about(0, 4), 10);
        C.due("address 510", set(x, 240, 1, 254), 0);
        refused("mode 2 at 510", x, set(x, 224, 2), 6);
        C.due("address 507", set(x, 240, 1, 251), 0);
        C.due("mode 2 at 507", set(x, 224, 2), 0);
        refused("mode 3 at 507", x, set(x, 224, 3), 6);
        refused("address 508 in mode 2", x, set(x, 240, 1, 252), 6);
        C.due("footprint", x.about(0, 1), 6);
    }

    private static void sets() {
        LampLine x = line();
        C.due("mode 4", set(x, 224, 4), 0);
        C.due("its reply", Kit.answer(x),
                Kit.packet(Kit.SEARCHER, Kit.id(MAKER, REST), Kit.head(1, 0, 0, 0, 49, 224)));
        C.due("mode", x.about(0, 2), 4);
        C.due("footprint", x.about(0, 1), 12);
        C.due("address 501", set(x, 240, 1, 245), 0);
        C.due("address", x.about(0, 4), 501);
        C.due("shows", set(x, 4096, 1), 0);
        C.due("shows", x.about(0, 6), 1);
        get(x, 4096);
        C.due("GET 4096", Kit.data(x), 1);
        C.due("shows not", set(x, 4096, 0), 0);
        C.due("shows", x.about(0, 6), 0);
        C.due("mode 1", set(x, 224, 1), 0);
        C.due("address 510", set(x, 240, 1, 254), 0);
        C.due("address", x.about(0, 4), 510);
    }

    private static void calls() {
        LampLine x = line();
        x.lamp(MAKER, 5, 1, 2, 1);
        x.lamp(MAKER + 1, 5, 1, 2, 1);
        // What a lamp said before must not come again.
        Kit.ask(x, MAKER, REST, Kit.SEARCH, 3);
        C.due("SET by a CALL of a maker", Kit.ask(x, MAKER, Kit.ALL_RESTS, Kit.SET, 224, 2), LampLine.NONE);
        C.due("mode", x.about(0, 2), 2);
        C.due("mode", x.about(1, 2), 2);
        C.due("mode", x.about(2, 2), 1);
        C.due("SET by a CALL of all", Kit.ask(x, 65535, Kit.ALL_RESTS, Kit.SET, 4096, 1), LampLine.NONE);
        C.due("shows", x.about(0, 6), 1);
        C.due("shows", x.about(2, 6), 1);
        C.due("one may refuse", Kit.ask(x, 65535, Kit.ALL_RESTS, Kit.SET, 224, 3), LampLine.NONE);
        C.due("mode", x.about(0, 2), 3);
        C.due("mode", x.about(1, 2), 2);
        Kit.askPart(x, 65535, Kit.ALL_RESTS, 7, Kit.SET, 4096, 0);
        C.due("a part that is none", x.about(0, 6), 1);
        Kit.askPart(x, 65535, Kit.ALL_RESTS, 65535, Kit.SET, 4096, 0);
        C.due("all parts", x.about(0, 6), 0);
        C.due("GET by a CALL", Kit.ask(x, 65535, Kit.ALL_RESTS, Kit.GET, 240), LampLine.NONE);
        C.due("nobody of that maker", Kit.ask(x, 9, Kit.ALL_RESTS, Kit.SET, 4096, 1), LampLine.NONE);
        C.due("nobody of that maker", Kit.ask(x, 65534, Kit.ALL_RESTS, Kit.SET, 4096, 1), LampLine.NONE);
        C.due("65535 and another rest is no CALL", Kit.ask(x, 65535, REST, Kit.SET, 4096, 1), LampLine.NONE);
        C.due("shows", x.about(0, 6), 0);
        C.due("only those by ID count", x.about(0, 10), 0);
    }

    private static void labelLater() {
        LampLine x = line();
        C.due("SET 130", set(x, 130, 'a', 'b', 'c'), 1);
        C.due("its reply", Kit.answer(x),
                Kit.packet(Kit.SEARCHER, Kit.id(MAKER, REST), Kit.head(1, 1, 0, 0, 49, 130), 0, 3));
        Kit.send(x);
        C.due("1 frame behind", x.about(0, 9), 0);
        Kit.send(x, 0, 1);
        C.due("2 frames behind", x.about(0, 9), 0);
        C.due("nothing waits", x.about(0, 8), 0);
        C.due("3 frames behind, before it is looked at", get(x, 130), 0);
        C.due("the label", Kit.data(x), 'a', 'b', 'c');
        C.due("MESSAGES", x.answer(17), 1);
        C.due("one waits", x.about(0, 8), 1);
        C.due("an empty label", set(x, 130), 1);
        x.search();
        x.step(1);
        C.due("frames of a search are frames", x.about(0, 9), 0);
        C.due("two wait", x.about(0, 8), 2);
        C.due("the longest label", set(x, 130, Kit.same(126, 32)), 1);
        Kit.send(x);
        Kit.send(x);
        Kit.send(x);
        C.due("the longest label", x.about(0, 9), 32);
        C.due("its last byte", x.label(0, 31), 126);
        LampLine y = line();
        y.lamp(MAKER, 5, 1, 1, 1);
        set(y, 130, 'x');
        Kit.ask(y, MAKER, 5, Kit.SET, 130, 'y', 'z');
        set(y, 130, 'v', 'w', 'w');
        C.due("nothing is done yet", y.about(0, 9) + y.about(1, 9), 0);
        Kit.send(y);
        C.due("the first is done", y.about(0, 9), 1);
        C.due("the other lamp's is not", y.about(1, 9), 0);
        Kit.send(y);
        C.due("the other lamp's is done", y.about(1, 9), 2);
        C.due("the latest is not", y.about(0, 9), 1);
        Kit.send(y);
        C.due("the latest is done", y.about(0, 9), 3);
    }

    private static void fourWait() {
        LampLine x = line();
        for (int k = 0; k < 4; k++) {
            C.due("SET 130 " + k, set(x, 130, 'a' + k), 1);
        }
        refused("a fifth one", x, set(x, 130, 'z'), 7);
        C.due("MESSAGES", x.answer(17), 2);
        refused("a value goes before", x, set(x, 130, 1), 6);
        refused("a size goes before", x, set(x, 130, Kit.same(65, 33)), 1);
        C.due("four wait", x.about(0, 8), 4);
        refused("a fifth one", x, set(x, 130, 'z'), 7);
        C.due("the label", x.label(0, 0), 'd');
        C.due("other SETS are done", set(x, 224, 2), 0);
        C.due("GET 32", get(x, 32, 0), 0);
        C.due("three wait", x.about(0, 8), 3);
        C.due("a fourth one", set(x, 130, 'y'), 1);
        refused("a fifth one", x, set(x, 130, 'z'), 7);
    }

    private static void waitingReplies() {
        LampLine x = line();
        set(x, 130, 'a');
        set(x, 130, 'b');
        Kit.send(x);
        Kit.send(x);
        Kit.send(x);
        C.due("two wait", x.about(0, 8), 2);
        Kit.ask(x, 65535, Kit.ALL_RESTS, Kit.GET, 32, 1);
        C.due("a GET by a CALL takes none", x.about(0, 8), 2);
        refused("nor one that is refused", x, get(x, 32), 1);
        C.due("two wait still", x.about(0, 8), 2);
        C.due("MESSAGES of a SEARCH", Kit.ask(x, MAKER, REST, Kit.SEARCH, 3), 0);
        C.due("its reply", Kit.answer(x),
                Kit.packet(Kit.SEARCHER, Kit.id(MAKER, REST), Kit.head(5, 0, 2, 0, 17, 3), 0, 0));
        C.due("GET 32", get(x, 32, 200), 0);
        C.due("the reply in its place", Kit.answer(x),
                Kit.packet(Kit.SEARCHER, Kit.id(MAKER, REST), Kit.head(6, 0, 1, 0, 49, 130)));
        int[] asked = Kit.packet(Kit.id(MAKER, REST), Kit.id(3, 3), Kit.head(99, 1, 0, 0, 32, 32), 0);
        C.due("GET 32 of another", Kit.send(x, asked), 26);
        C.due("it goes to who asked", Kit.answer(x),
                Kit.packet(Kit.id(3, 3), Kit.id(MAKER, REST), Kit.head(99, 0, 0, 0, 49, 130)));
        C.due("GET 32 of nothing", get(x, 32, 0), 0);
        C.due("its reply", Kit.answer(x),
                Kit.packet(Kit.SEARCHER, Kit.id(MAKER, REST), Kit.head(7, 0, 0, 0, 33, 32)));
        LampLine z = line();
        set(z, 130, 'a');
        Kit.send(z);
        Kit.send(z);
        Kit.ask(z, MAKER, REST, Kit.SEARCH, 2);
        C.due("MESSAGES of a SEARCH, the first reply since one waits", z.answer(17), 1);
        LampLine y = line();
        Kit.askPart(y, MAKER, REST, 65535, Kit.SET, 130, 'a');
        C.due("LATER for all parts", Kit.data(y), 0, 3);
        Kit.send(y);
        Kit.send(y);
        get(y, 32, 0);
        C.due("PART is that of the GET", Kit.answer(y),
                Kit.packet(Kit.SEARCHER, Kit.id(MAKER, REST), Kit.head(2, 0, 0, 0, 49, 130)));
    }

    private static void labelsByCall() {
        LampLine x = line();
        C.due("SET 130 by a CALL", Kit.ask(x, MAKER, Kit.ALL_RESTS, Kit.SET, 130, 'q', 'r'), LampLine.NONE);
        C.due("is done at once", x.about(0, 9), 2);
        set(x, 130, 'l');
        for (int k = 0; k < 3; k++) {
            set(x, 130, 'm');
        }
        Kit.ask(x, 65535, Kit.ALL_RESTS, Kit.SET, 130, 's', 't', 'u');
        C.due("is done though four are on their way", x.about(0, 9), 3);
        Kit.send(x);
        C.due("the later one comes over it", x.about(0, 9), 1);
        C.due("three wait", x.about(0, 8), 3);
        Kit.ask(x, 65535, Kit.ALL_RESTS, Kit.SET, 130, Kit.same(65, 33));
        C.due("a size that may not be", x.about(0, 9), 1);
        Kit.ask(x, 65535, Kit.ALL_RESTS, Kit.SET, 130, 65, 127);
        C.due("a value that may not be", x.about(0, 9), 1);
        Kit.ask(x, 65535, Kit.ALL_RESTS, Kit.SET, 130);
        C.due("an empty one", x.about(0, 9), 0);
    }

    private static void labelBytes() {
        LampLine x = line();
        C.index("label(0, 0)", () -> x.label(0, 0));
        Kit.ask(x, MAKER, Kit.ALL_RESTS, Kit.SET, 130, 32, 65, 126);
        C.due("label(0, 0)", x.label(0, 0), 32);
        C.due("label(0, 1)", x.label(0, 1), 65);
        C.due("label(0, 2)", x.label(0, 2), 126);
        C.index("label(0, 3)", () -> x.label(0, 3));
        C.index("label(0, -1)", () -> x.label(0, -1));
        C.index("label(1, 0)", () -> x.label(1, 0));
        C.index("label(-1, 0)", () -> x.label(-1, 0));
        Kit.ask(x, MAKER, Kit.ALL_RESTS, Kit.SET, 130, 66);
        C.due("label(0, 0)", x.label(0, 0), 66);
        C.index("label(0, 1) of a shorter one", () -> x.label(0, 1));
    }
}
