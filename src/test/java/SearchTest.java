import java.util.Set;
import java.util.TreeSet;

/** Promises 15 to 19, and what lamps do with SEARCH. */
public final class SearchTest {
    private static final Check C = new Check("SearchTest");
    private static final long LAST = 281474976710654L;

    public static void main(String[] args) {
        echoes();
        hushAndWake();
        emptyLine();
        oneLamp();
        wrongCalls();
        halves();
        silentLamps();
        wokenLamps();
        allOfMany();
        doubt();
        absentId();
        foundAlone();
        strangeEchoes();
        echoOfNobody();
        echoOfFoundOne();
        noneIds();
        tapeIsLeftAlone();
        replyThatIsNotRight();
        echoAtTheEdge();
        searchAnew();
        partOfTheSearch();
        C.finish();
    }

    private static int[] span(long low, long high) {
        return Kit.joined(Kit.idBytes(low), Kit.idBytes(high));
    }

    private static void echoes() {
        LampLine x = new LampLine();
        long id = Kit.id(300, 0x80FF7F01L);
        x.lamp(300, 0x80FF7F01L, 1, 1, 1);
        C.due("SEARCH 1 by ID", Kit.ask(x, 300, 0x80FF7F01L, Kit.SEARCH, 1, span(id, id)), -2);
        C.due("its bytes", Kit.answer(x), Kit.echo(id));
        C.due("the bytes are so many", Kit.answer(x).length, 24);
        C.due("by a CALL", Kit.ask(x, 65535, Kit.ALL_RESTS, Kit.SEARCH, 1, span(0, LAST)), -2);
        C.due("by a CALL of its maker", Kit.ask(x, 300, Kit.ALL_RESTS, Kit.SEARCH, 1, span(0, LAST)), -2);
        C.due("of another maker", Kit.ask(x, 301, Kit.ALL_RESTS, Kit.SEARCH, 1, span(0, LAST)), LampLine.NONE);
        C.due("PART is not asked", Kit.askPart(x, 300, Kit.ALL_RESTS, 9, Kit.SEARCH, 1, span(0, LAST)), -2);
        C.due("below", Kit.ask(x, 65535, Kit.ALL_RESTS, Kit.SEARCH, 1, span(id + 1, LAST)), LampLine.NONE);
        C.due("above", Kit.ask(x, 65535, Kit.ALL_RESTS, Kit.SEARCH, 1, span(0, id - 1)), LampLine.NONE);
        C.due("11 bytes", Kit.ask(x, 65535, Kit.ALL_RESTS, Kit.SEARCH, 1, new int[11]), LampLine.NONE);
        C.due("13 bytes", Kit.ask(x, 65535, Kit.ALL_RESTS, Kit.SEARCH, 1, Kit.joined(span(0, LAST), 0)),
                LampLine.NONE);
        C.due("MATTER 0", Kit.ask(x, 300, 0x80FF7F01L, Kit.SEARCH, 0), LampLine.NONE);
        C.due("MATTER 4", Kit.ask(x, 300, 0x80FF7F01L, Kit.SEARCH, 4), LampLine.NONE);
        C.due("MATTER 257", Kit.ask(x, 300, 0x80FF7F01L, Kit.SEARCH, 257, span(0, LAST)), LampLine.NONE);
        x.silence(0, true);
        C.due("SILENT", Kit.ask(x, 65535, Kit.ALL_RESTS, Kit.SEARCH, 1, span(0, LAST)), LampLine.NONE);
        C.due("SILENT, by ID", Kit.ask(x, 300, 0x80FF7F01L, Kit.SEARCH, 1, span(0, LAST)), LampLine.NONE);
        C.due("GETS are answered still", Kit.ask(x, 300, 0x80FF7F01L, Kit.GET, 80), 0);
        C.due("SEARCH is no GET or SET", x.about(0, 10), 1);
    }

    private static void hushAndWake() {
        LampLine x = new LampLine();
        x.lamp(5, 6, 1, 1, 1);
        x.lamp(5, 7, 1, 1, 1);
        x.lamp(6, 6, 1, 1, 1);
        C.due("SEARCH 2", Kit.ask(x, 5, 6, Kit.SEARCH, 2), 0);
        C.due("its reply", Kit.answer(x),
                Kit.packet(Kit.SEARCHER, Kit.id(5, 6), Kit.head(1, 0, 0, 0, 17, 2), 0, 0));
        C.due("SILENT", x.about(0, 5), 1);
        C.due("not SILENT", x.about(1, 5), 0);
        C.due("SEARCH 2 again", Kit.ask(x, 5, 6, Kit.SEARCH, 2), 0);
        C.due("SEARCH 3 with a byte", Kit.ask(x, 5, 6, Kit.SEARCH, 3, 0), LampLine.NONE);
        C.due("SILENT", x.about(0, 5), 1);
        C.due("SEARCH 3", Kit.ask(x, 5, 6, Kit.SEARCH, 3), 0);
        C.due("its reply", Kit.answer(x),
                Kit.packet(Kit.SEARCHER, Kit.id(5, 6), Kit.head(4, 0, 0, 0, 17, 3), 0, 0));
        C.due("not SILENT", x.about(0, 5), 0);
        C.due("SEARCH 2 with a byte", Kit.ask(x, 5, 6, Kit.SEARCH, 2, 0), LampLine.NONE);
        C.due("not SILENT", x.about(0, 5), 0);
        C.due("SEARCH 2 by a CALL", Kit.ask(x, 5, Kit.ALL_RESTS, Kit.SEARCH, 2), LampLine.NONE);
        C.due("SILENT", x.about(0, 5) + 2 * x.about(1, 5) + 4 * x.about(2, 5), 3);
        C.due("SEARCH 3 by a CALL", Kit.ask(x, 65535, Kit.ALL_RESTS, Kit.SEARCH, 3), LampLine.NONE);
        C.due("SILENT", x.about(0, 5) + 2 * x.about(1, 5) + 4 * x.about(2, 5), 0);
    }

    private static void emptyLine() {
        LampLine x = new LampLine();
        C.due("search()", x.search(), 1);
        C.due("frames()", x.frames(), 1);
        C.due("branch(0)", x.branch(0), 0);
        C.due("branch(1)", x.branch(1), LAST);
        C.due("branch(2)", x.branch(2), 0);
        C.due("step(1)", x.step(1), 0);
        C.due("frames()", x.frames(), 2);
        C.due("branch(2)", x.branch(2), 1);
        C.due("step(1000) without branches", x.step(1000), 0);
        C.due("frames()", x.frames(), 2);
        C.due("branch(2)", x.branch(2), 1);
        C.due("search() again", x.search(), 1);
        C.due("branch(2)", x.branch(2), 0);
    }

    private static void oneLamp() {
        LampLine x = new LampLine();
        x.lamp(5, 6, 1, 1, 1);
        x.silence(0, true);
        x.search();
        C.due("a search wakes all", x.about(0, 5), 0);
        C.due("step(1)", x.step(1), 1);
        C.due("frames()", x.frames(), 3);
        C.due("found()", x.found(), 1);
        C.due("id(0)", x.id(0), Kit.id(5, 6));
        C.index("id(1)", () -> x.id(1));
        C.index("id(-1)", () -> x.id(-1));
        C.due("it is SILENT", x.about(0, 5), 1);
        C.due("COUNT", x.answer(15), 3);
        C.due("the branch as it was", x.branch(1), LAST);
        C.due("step(1)", x.step(1), 0);
        C.due("branch(2)", x.branch(2), 2);
        C.due("search()", x.search(), 1);
        C.due("nothing found", x.found(), 0);
        C.index("id(0)", () -> x.id(0));
        C.due("step(7)", x.step(7), 0);
        C.due("branch(2) counts those that were taken", x.branch(2), 2);
    }

    private static void wrongCalls() {
        LampLine x = new LampLine();
        C.state("step(0) without a search", () -> x.step(0));
        C.state("step(1001) without a search", () -> x.step(1001));
        x.search();
        C.argument("step(0)", () -> x.step(0));
        C.argument("step(-1)", () -> x.step(-1));
        C.argument("step(1001)", () -> x.step(1001));
        C.index("branch(3)", () -> x.branch(3));
        C.index("branch(-1)", () -> x.branch(-1));
        C.due("frames()", x.frames(), 1);
        x.step(1);
        C.argument("step(0) without branches", () -> x.step(0));
        C.index("branch(0)", () -> x.branch(0));
        C.index("branch(1)", () -> x.branch(1));
        C.index("branch(3)", () -> x.branch(3));
    }

    private static void halves() {
        LampLine x = new LampLine();
        x.lamp(1, 0, 1, 1, 1);
        x.lamp(32767, 5, 1, 1, 1);
        x.search();
        C.due("step(1)", x.step(1), 2);
        C.due("the lower half", x.branch(0), 0);
        C.due("the lower half", x.branch(1), 140737488355327L);
        C.due("step(1)", x.step(1), 3);
        C.due("its lower half", x.branch(1), 70368744177663L);
        C.due("step(1)", x.step(1), 3);
        C.due("found()", x.found(), 1);
        C.due("step(1)", x.step(1), 2);
        C.due("the upper half of the lower one", x.branch(0), 70368744177664L);
        C.due("the upper half of the lower one", x.branch(1), 140737488355327L);
        C.due("step(2)", x.step(2), 1);
        C.due("the upper half", x.branch(0), 140737488355328L);
        C.due("the upper half", x.branch(1), LAST);
        C.due("step(1)", x.step(1), 0);
        C.due("found()", x.found(), 2);
        C.due("id(1)", x.id(1), Kit.id(32767, 5));
        C.due("branch(2)", x.branch(2), 7);
    }

    private static void silentLamps() {
        LampLine x = new LampLine();
        x.lamp(5, 6, 1, 1, 1);
        x.lamp(5, 7, 1, 1, 1);
        x.search();
        x.silence(0, true);
        x.step(1000);
        C.due("found()", x.found(), 1);
        C.due("id(0)", x.id(0), Kit.id(5, 7));
    }

    private static void wokenLamps() {
        LampLine x = new LampLine();
        x.lamp(5, 6, 1, 1, 1);
        x.search();
        x.step(1);
        C.due("found()", x.found(), 1);
        // A FOUND lamp that is heard again is no reason to try it: the branch becomes two.
        x.silence(0, false);
        int frames = x.frames();
        C.due("step(1)", x.step(1), 2);
        C.due("one frame", x.frames(), frames + 1);
        C.due("step(1000)", x.step(1000), 0);
        C.due("it is found once", x.found(), 1);
    }

    private static void allOfMany() {
        LampLine x = new LampLine();
        for (int k = 0; k < 24; k++) {
            x.lamp(k % 3 == 0 ? 1 : 1 << k % 15, k % 2 == 0 ? k : 4294967294L - k, 1, 1, 1);
        }
        x.search();
        for (int k = 0; k < 20 && x.step(1000) > 0; k++) {
            C.due("the pile is low", x.step(1) < 50 ? 1 : 0, 1);
        }
        C.due("found()", x.found(), 24);
        Set<Long> ids = new TreeSet<>();
        for (int i = 0; i < 24; i++) {
            ids.add(x.id(i));
        }
        for (int k = 0; k < 24; k++) {
            C.due("lamp " + k + " is found", ids.contains(Kit.id(x.about(k, 0), x.rest(k))) ? 1 : 0, 1);
            C.due("lamp " + k + " is SILENT", x.about(k, 5), 1);
        }
    }

    private static void doubt() {
        long id = Kit.id(5, 6);
        LampLine x = new LampLine();
        x.lamp(5, 6, 1, 1, 1);
        x.search();
        Kit.narrow(x, id, id);
        C.due("nothing found", x.found(), 0);
        int frames = x.frames();
        x.spoil(25, 1);
        int branches = x.step(1);
        C.due("in DOUBT", x.found(), 0);
        C.due("two frames", x.frames(), frames + 2);
        C.due("it is the latest one again", x.branch(0) == id && x.branch(1) == id ? 1 : 0, 1);
        C.due("it is woken", x.about(0, 5), 0);
        C.due("the latest answer is that of SEARCH 3", x.answer(22), 3);
        C.due("the branch is done", x.step(1), branches - 1);
        C.due("found", x.found(), 1);
        C.due("it is SILENT", x.about(0, 5), 1);
    }

    private static void absentId() {
        LampLine x = new LampLine();
        x.lamp(5, 0, 1, 1, 1);
        x.search();
        Kit.spoilInto(x, Kit.echo(Kit.id(5, 0)), Kit.echo(Kit.id(5, 1)));
        int frames = x.frames();
        C.due("an ID that is not there: two branches", x.step(1), 2);
        C.due("it was tried", x.frames(), frames + 2);
        C.due("it is not there", x.found(), 0);
        C.due("the lower one", x.branch(1), 140737488355327L);
        C.due("the lamp is found later", x.step(1), 2);
        C.due("the lamp is found later", x.found(), 1);
    }

    private static void foundAlone() {
        LampLine x = new LampLine();
        long id = Kit.id(5, 6);
        x.lamp(5, 6, 1, 1, 1);
        x.search();
        x.step(1);
        C.due("found", x.found(), 1);
        x.silence(0, false);
        Kit.narrow(x, id, id);
        int frames = x.frames();
        x.step(1);
        C.due("an ID alone that is FOUND is tried", x.frames(), frames + 1);
        C.due("it is found once", x.found(), 1);
        C.due("it is SILENT", x.about(0, 5), 1);
    }

    private static void strangeEchoes() {
        long id = Kit.id(5, 6);
        int[] right = Kit.echo(id);
        for (int k = 0; k < 24; k++) {
            for (int bit = 0; bit < 8; bit++) {
                LampLine x = new LampLine();
                x.lamp(5, 6, 1, 1, 1);
                x.search();
                x.spoil(k, 1 << bit);
                x.step(1);
                C.due("bit " + bit + " of byte " + k, Kit.answer(x), Kit.with(right, k, right[k] ^ 1 << bit));
                C.due("its branches", x.step(1), 2);
                C.due("found then", x.found(), 1);
            }
        }
        // Both bytes of a pair are changed so that the ID and the sum stay: only bits of 170 or 85 are missing.
        for (int mask = 64; mask <= 128; mask *= 2) {
            LampLine x = new LampLine();
            x.lamp(5, 6, 1, 1, 1);
            x.search();
            x.spoil(8, mask);
            x.spoil(9, mask);
            C.due("a pair without bit " + mask, x.step(1), 2);
            C.due("is not right", x.found(), 0);
            C.due("its bytes", Kit.answer(x), Kit.with(Kit.with(right, 8, 170 ^ mask), 9, 85 ^ mask));
        }
    }

    private static void echoOfNobody() {
        LampLine x = new LampLine();
        x.lamp(5, 0, 1, 1, 1);
        x.search();
        x.step(1);
        x.silence(0, false);
        x.step(1);
        int frames = x.frames();
        C.due("the lower half holds it", x.branch(1), 140737488355327L);
        Kit.spoilInto(x, Kit.echo(Kit.id(5, 0)), Kit.echo(Kit.id(40000, 0)));
        C.due("an ID that is not in the branch", x.step(1), 3);
        C.due("is not tried", x.frames(), frames + 1);
        LampLine y = new LampLine();
        y.lamp(5, 0, 1, 1, 1);
        y.search();
        frames = y.frames();
        Kit.spoilInto(y, Kit.echo(Kit.id(5, 0)), Kit.echo(Kit.id(40000, 0)));
        C.due("an ID of no lamp's maker in the branch", y.step(1), 2);
        C.due("is tried", y.frames(), frames + 2);
    }

    private static void echoOfFoundOne() {
        LampLine x = new LampLine();
        x.lamp(5, 0, 1, 1, 1);
        x.lamp(5, 1, 1, 1, 1);
        x.search();
        x.silence(1, true);
        x.step(1);
        C.due("the first is found", x.id(0), Kit.id(5, 0));
        x.silence(1, false);
        Kit.spoilInto(x, Kit.echo(Kit.id(5, 1)), Kit.echo(Kit.id(5, 0)));
        int frames = x.frames();
        C.due("an ID that is FOUND", x.step(1), 2);
        C.due("is not tried", x.frames(), frames + 1);
        C.due("step(1000)", x.step(1000), 0);
        C.due("both are found", x.found(), 2);
    }

    private static void noneIds() {
        LampLine x = new LampLine();
        x.lamp(5, 4294967294L, 1, 1, 1);
        x.search();
        int[] is = Kit.echo(Kit.id(5, 4294967294L));
        int[] none = Kit.echo(Kit.id(5, 4294967295L));
        Kit.spoilInto(x, is, none);
        int frames = x.frames();
        C.due("an ANSWER with an ID that is none", x.step(1), 2);
        C.due("its bytes", Kit.answer(x), none);
        C.due("is not tried", x.frames(), frames + 1);
        Kit.narrow(x, Kit.id(5, 4294967294L), Kit.id(5, 4294967294L));
        C.due("its ID alone", x.branch(0), Kit.id(5, 4294967294L));
        int branches = x.step(1);
        C.due("found", x.found(), 1);
        C.due("none alone", x.branch(0), Kit.id(5, 4294967295L));
        C.due("none alone", x.branch(1), Kit.id(5, 4294967295L));
        frames = x.frames();
        long steps = x.branch(2);
        C.due("is done", x.step(1), branches - 1);
        C.due("without a frame", x.frames(), frames);
        C.due("by a STEP", x.branch(2), steps + 1);
    }

    private static void echoAtTheEdge() {
        long[] ids = {Kit.id(5, 6), Kit.id(5, 7)};
        for (int k = 0; k < 2; k++) {
            LampLine x = new LampLine();
            x.lamp(5, 6 + k, 1, 1, 1);
            x.search();
            Kit.narrow(x, ids[0], ids[1]);
            C.due("a branch of two", x.branch(0), ids[0]);
            C.due("a branch of two", x.branch(1), ids[1]);
            x.step(1);
            C.due("the one at its edge is found", x.found(), 1);
            C.due("the branch as it was", x.branch(0), ids[0]);
            C.due("the branch as it was", x.branch(1), ids[1]);
        }
    }

    private static void searchAnew() {
        LampLine x = new LampLine();
        x.lamp(1, 0, 1, 1, 1);
        x.lamp(32767, 5, 1, 1, 1);
        x.search();
        x.step(6);
        C.due("both are found", x.found(), 2);
        C.due("the upper half is left", x.branch(0), 140737488355328L);
        C.due("search() again", x.search(), 1);
        C.due("branch(0)", x.branch(0), 0);
        C.due("branch(1)", x.branch(1), LAST);
        C.due("branch(2)", x.branch(2), 0);
        C.due("found()", x.found(), 0);
        C.due("a found one is not SILENT", x.about(0, 5), 0);
    }

    private static void partOfTheSearch() {
        LampLine x = new LampLine();
        x.lamp(5, 6, 1, 1, 1);
        Kit.askPart(x, 5, 6, 513, Kit.GET, 80, 1, 2, 3);
        x.search();
        x.step(1);
        C.due("the reply to a SEARCH 2", Kit.answer(x),
                Kit.packet(Kit.SEARCHER, Kit.id(5, 6), Kit.head(4, 0, 0, 0, 17, 2), 0, 0));
    }

    private static void tapeIsLeftAlone() {
        LampLine x = new LampLine();
        x.lamp(5, 6, 4, 1, 1);
        Kit.tape(x, 0, 1, 2, 3, 4);
        x.search();
        x.step(5);
        x.end(5);
        x.send();
        C.due("the tape is as it was", x.level(0, 3), 4);
    }

    /** Replies to a SEARCH 2 that are right packets, but not the one that finds. */
    private static void replyThatIsNotRight() {
        long id = Kit.id(5, 6);
        int[] places = {3, 14, 15, 16, 20, 22};
        for (int place : places) {
            LampLine x = new LampLine();
            x.lamp(5, 6, 1, 1, 1);
            aloneBranch(x, id);
            int[] is = Kit.packet(Kit.SEARCHER, id, Kit.head((x.frames() + 1) % 256, 0, 0, 0, 17, 2), 0, 0);
            int[] other = Kit.checked(Kit.with(is, place, is[place] ^ 1));
            Kit.spoilInto(x, is, other);
            x.step(1);
            C.due("byte " + place + " is another: not found", x.found(), 0);
            C.due("byte " + place + ": woken", x.about(0, 5), 0);
        }
        int[] free = {17, 19, 24};
        for (int place : free) {
            LampLine x = new LampLine();
            x.lamp(5, 6, 1, 1, 1);
            aloneBranch(x, id);
            int[] is = Kit.packet(Kit.SEARCHER, id, Kit.head((x.frames() + 1) % 256, 0, 0, 0, 17, 2), 0, 0);
            Kit.spoilInto(x, is, Kit.checked(Kit.with(is, place, is[place] ^ 1)));
            x.step(1);
            C.due("byte " + place + " is not asked: found", x.found(), 1);
        }
    }

    // All frames are the searcher's own here, so that their number tells the COUNT.
    private static void aloneBranch(LampLine x, long id) {
        x.search();
        Kit.narrow(x, id, id);
    }
}
