/** Promise 8: what is set to be spoiled, and answers that fall together. */
public final class SpoilTest {
    private static final Check C = new Check("SpoilTest");
    private static final int[] REPLY = {0, 10};

    public static void main(String[] args) {
        once();
        waitsForAnAnswer();
        sixteen();
        wrong();
        bytesThatAreNotThere();
        fallingTogether();
        C.finish();
    }

    private static LampLine line() {
        LampLine x = new LampLine();
        x.lamp(7, 1, 1, 1, 10);
        return x;
    }

    private static int[] reply(int count) {
        return Kit.packet(Kit.SEARCHER, Kit.id(7, 1), Kit.head(count, 0, 0, 0, 33, 240), REPLY);
    }

    private static void once() {
        LampLine x = line();
        x.spoil(24, 255);
        x.spoil(25, 0xABCD01);
        C.due("a spoiled reply", Kit.ask(x, 7, 1, Kit.GET, 240), -2);
        C.due("its bytes", Kit.answer(x), Kit.with(Kit.with(reply(1), 24, 255), 25, 11));
        C.due("the next one", Kit.ask(x, 7, 1, Kit.GET, 240), 0);
        C.due("its bytes", Kit.answer(x), reply(2));
        x.spoil(24, 6);
        x.spoil(24, 5);
        Kit.ask(x, 7, 1, Kit.GET, 240);
        C.due("one byte twice", Kit.answer(x), Kit.with(reply(3), 24, 3));
        x.spoil(24, 0x100);
        C.due("a mask whose lowest byte is 0", Kit.ask(x, 7, 1, Kit.GET, 240), 0);
    }

    private static void waitsForAnAnswer() {
        LampLine x = line();
        x.spoil(0, 1);
        C.due("NOTHING", Kit.ask(x, 7, 2, Kit.GET, 240), LampLine.NONE);
        C.due("NOTHING", Kit.send(x, 0, 1, 2), 0);
        C.due("frames", x.search(), 1);
        int[] get = Kit.packet(Kit.id(7, 1), 5, Kit.head(1, 1, 0, 0, 32, 240));
        C.due("send", Kit.send(x, get), 28);
        C.due("the first answer is spoiled", x.answer(0), 205);
        Kit.send(x, get);
        C.due("the second is not", x.answer(0), 204);
    }

    private static void sixteen() {
        LampLine x = line();
        for (int k = 0; k < 16; k++) {
            x.spoil(k, 128);
        }
        Kit.ask(x, 7, 1, Kit.GET, 240);
        int[] due = reply(1);
        for (int k = 0; k < 16; k++) {
            due[k] ^= 128;
        }
        C.due("16 of them", Kit.answer(x), due);
        for (int k = 0; k < 19; k++) {
            x.spoil(k, 64);
        }
        Kit.ask(x, 7, 1, Kit.GET, 240);
        due = reply(2);
        for (int k = 3; k < 19; k++) {
            due[k] ^= 64;
        }
        C.due("the first three of 19 are out", Kit.answer(x), due);
    }

    private static void wrong() {
        LampLine x = line();
        C.argument("spoil(-1, 1)", () -> x.spoil(-1, 1));
        C.argument("spoil(301, 1)", () -> x.spoil(301, 1));
        C.argument("spoil(least, 1)", () -> x.spoil(Integer.MIN_VALUE, 1));
        x.spoil(300, 1);
        C.due("none of them spoils", Kit.ask(x, 7, 1, Kit.GET, 240), 0);
    }

    private static void bytesThatAreNotThere() {
        LampLine x = line();
        x.spoil(28, 255);
        C.due("a byte that the answer has not", Kit.ask(x, 7, 1, Kit.GET, 240), 0);
        C.due("its bytes", Kit.answer(x), reply(1));
        C.due("a longer one", Kit.ask(x, 7, 1, Kit.GET, 96), 0);
        C.due("is not spoiled", x.answer(28), 0);
    }

    private static void fallingTogether() {
        LampLine x = new LampLine();
        x.lamp(1, 0x0F, 1, 1, 1);
        x.lamp(2, 0x70, 1, 1, 1);
        x.lamp(4, 0x8000, 1, 1, 1);
        int[] due = new int[24];
        long[] ids = {Kit.id(1, 0x0F), Kit.id(2, 0x70), Kit.id(4, 0x8000)};
        for (long id : ids) {
            int[] one = Kit.echo(id);
            for (int k = 0; k < 24; k++) {
                due[k] |= one[k];
            }
        }
        x.spoil(3, 255);
        due[3] ^= 255;
        int[] all = Kit.joined(Kit.idBytes(0), Kit.idBytes(Kit.TO_ALL));
        C.due("all fall together", Kit.ask(x, 65535, Kit.ALL_RESTS, Kit.SEARCH, 1, all), -2);
        C.due("joined by or, then spoiled once", Kit.answer(x), due);
    }
}
