/** Promises 1, 2, 10, 11, 14: new objects, lamps, and what is told of them. */
public final class LampTest {
    private static final Check C = new Check("LampTest");

    public static void main(String[] args) {
        newObject();
        ordinaryLamps();
        wrongLamps();
        fullLine();
        facts();
        silence();
        C.finish();
    }

    private static void newObject() {
        LampLine x = new LampLine();
        C.due("frames()", x.frames(), 0);
        C.due("found()", x.found(), 0);
        C.due("branch(2)", x.branch(2), 0);
        C.index("branch(0)", () -> x.branch(0));
        C.index("branch(1)", () -> x.branch(1));
        C.index("id(0)", () -> x.id(0));
        C.index("answer(0)", () -> x.answer(0));
        C.index("about(0, 0)", () -> x.about(0, 0));
        C.index("rest(0)", () -> x.rest(0));
        C.index("level(0, 0)", () -> x.level(0, 0));
        C.index("label(0, 0)", () -> x.label(0, 0));
        C.index("silence(0, true)", () -> x.silence(0, true));
        C.state("step(1)", () -> x.step(1));
        C.argument("end(1)", () -> x.end(1));
        x.end(0);
        C.due("send()", x.send(), 0);
        C.due("frames()", x.frames(), 1);
    }

    private static void ordinaryLamps() {
        LampLine x = new LampLine();
        C.due("lamp", x.lamp(1, 0, 1, 1, 1), 0);
        C.due("lamp", x.lamp(32767, 4294967294L, 64, 8, 449), 1);
        C.due("lamp", x.lamp(1, 4294967294L, 1, 8, 512), 2);
        C.due("rest(0)", x.rest(0), 0);
        C.due("rest(1)", x.rest(1), 4294967294L);
        C.due("rest(2)", x.rest(2), 4294967294L);
        C.index("rest(3)", () -> x.rest(3));
        C.index("rest(-1)", () -> x.rest(-1));
        C.index("rest(24)", () -> x.rest(24));
        C.due("about(1, 0)", x.about(1, 0), 32767);
    }

    private static void wrongLamps() {
        LampLine x = new LampLine();
        x.lamp(5, 6, 1, 1, 1);
        C.argument("maker 0", () -> x.lamp(0, 1, 1, 1, 1));
        C.argument("maker -1", () -> x.lamp(-1, 1, 1, 1, 1));
        C.argument("maker 32768", () -> x.lamp(32768, 1, 1, 1, 1));
        C.argument("rest -1", () -> x.lamp(5, -1, 1, 1, 1));
        C.argument("rest 4294967295", () -> x.lamp(5, 4294967295L, 1, 1, 1));
        C.argument("rest far", () -> x.lamp(5, Long.MAX_VALUE, 1, 1, 1));
        C.argument("width 0", () -> x.lamp(5, 1, 0, 1, 1));
        C.argument("width 65", () -> x.lamp(5, 1, 65, 1, 1));
        C.argument("modes 0", () -> x.lamp(5, 1, 1, 0, 1));
        C.argument("modes 9", () -> x.lamp(5, 1, 1, 9, 1));
        C.argument("address 0", () -> x.lamp(5, 1, 1, 1, 0));
        C.argument("address 513", () -> x.lamp(5, 1, 1, 1, 513));
        C.argument("address far", () -> x.lamp(5, 1, 64, 1, Integer.MAX_VALUE));
        C.argument("width does not fit", () -> x.lamp(5, 1, 64, 1, 450));
        C.argument("the ID is there", () -> x.lamp(5, 6, 2, 2, 2));
        C.due("a lamp behind wrong ones", x.lamp(5, 7, 1, 1, 1), 1);
        C.due("the same rest of another maker", x.lamp(6, 6, 1, 1, 1), 2);
    }

    private static void fullLine() {
        LampLine x = new LampLine();
        for (int k = 0; k < 24; k++) {
            C.due("lamp " + k, x.lamp(9, k, 1, 1, 1), k);
        }
        C.state("a lamp too many", () -> x.lamp(9, 24, 1, 1, 1));
        C.argument("a wrong lamp too many", () -> x.lamp(9, 24, 1, 1, 0));
        C.argument("a lamp too many that is there", () -> x.lamp(9, 23, 1, 1, 1));
        C.due("rest(23)", x.rest(23), 23);
        C.index("rest(24)", () -> x.rest(24));
    }

    private static void facts() {
        LampLine x = new LampLine();
        x.lamp(300, 77, 5, 6, 100);
        long[] atFirst = {300, 5, 1, 6, 100, 0, 0, 1, 0, 0, 0};
        for (int what = 0; what < atFirst.length; what++) {
            C.due("about(0, " + what + ")", x.about(0, what), atFirst[what]);
        }
        C.index("about(0, 11)", () -> x.about(0, 11));
        C.index("about(0, -1)", () -> x.about(0, -1));
        C.index("about(1, 0)", () -> x.about(1, 0));
        C.index("about(-1, 0)", () -> x.about(-1, 0));
        C.index("about(24, 0)", () -> x.about(24, 0));
        Kit.ask(x, 300, 77, Kit.SET, 224, 3);
        Kit.ask(x, 300, 77, Kit.SET, 240, 1, 4);
        Kit.ask(x, 300, 77, Kit.SET, 4096, 1);
        Kit.ask(x, 300, 77, Kit.SET, 130, 'h', 'i');
        x.silence(0, true);
        Kit.send(x, new int[513]);
        Kit.send(x);
        Kit.send(x);
        long[] then = {300, 15, 3, 6, 260, 1, 1, 0, 1, 2, 4};
        for (int what = 0; what < then.length; what++) {
            C.due("then about(0, " + what + ")", x.about(0, what), then[what]);
        }
    }

    private static void silence() {
        LampLine x = new LampLine();
        x.lamp(3, 3, 1, 1, 1);
        x.lamp(3, 4, 1, 1, 1);
        C.due("silence", x.silence(0, false), 0);
        C.due("silence", x.silence(0, true), 0);
        C.due("silence", x.silence(0, true), 1);
        C.due("about(0, 5)", x.about(0, 5), 1);
        C.due("about(1, 5)", x.about(1, 5), 0);
        C.due("silence", x.silence(0, false), 1);
        C.due("about(0, 5)", x.about(0, 5), 0);
        C.index("silence(2, true)", () -> x.silence(2, true));
        C.index("silence(-1, true)", () -> x.silence(-1, true));
        C.due("frames()", x.frames(), 0);
    }
}
