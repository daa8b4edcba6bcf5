import java.io.IOException;
import java.nio.file.Files;
import java.nio.file.Path;

/** The example of README.md, call by call, with the answers that are told there. */
public final class ReadmeTest {
    private static final Check C = new Check("ReadmeTest");
    private static final LampLine LINE = new LampLine();

    private static String readme = "";
    private static int from;

    public static void main(String[] args) throws IOException {
        readme = Files.readString(Path.of("README.md"));
        levels();
        orders();
        search();
        C.finish();
    }

    // A call that README.md tells no more, or with another answer, must not go on being tested here alone.
    private static void told(String call, String answer, long got, long want) {
        int at = readme.indexOf(call + ";", from);
        C.due("README.md has " + call, at >= 0 ? 1 : 0, 1);
        if (at >= 0) {
            from = at + call.length();
            int end = readme.indexOf('\n', from);
            String line = readme.substring(from + 1, end < 0 ? readme.length() : end).trim();
            C.due("README.md tells " + answer + " for " + call, line.matches("// " + answer + "\\b.*") ? 1 : 0, 1);
        }
        C.due(call, got, want);
    }

    private static void told(String call, long got, long want) {
        told(call, Long.toString(want), got, want);
    }

    private static void levels() {
        told("line.lamp(7, 305419896L, 3, 4, 10)", LINE.lamp(7, 305419896L, 3, 4, 10), 0);
        told("line.feed(0x00010203, 0x04050607, 0x08090A0B, 0x0C0D0E0F, 0)",
                LINE.feed(0x00010203, 0x04050607, 0x08090A0B, 0x0C0D0E0F, 0), 20);
        LINE.end(16);
        told("line.send()", LINE.send(), 0);
        told("line.level(0, 2)", LINE.level(0, 2), 12);
    }

    private static void orders() {
        told("line.ask(7, 305419896L, 0, 32, 240)", LINE.ask(7, 305419896L, 0, 32, 240), 0);
        told("line.answer(25)", LINE.answer(25), 10);
        told("line.feed(0x02000000, 0, 0, 0, 0)", LINE.feed(0x02000000, 0, 0, 0, 0), 20);
        LINE.end(1);
        told("line.ask(7, 305419896L, 0, 48, 224)", LINE.ask(7, 305419896L, 0, 48, 224), 0);
        told("line.about(0, 1)", LINE.about(0, 1), 6);
        told("line.ask(7, 305419896L, 0, 48, 80)", LINE.ask(7, 305419896L, 0, 48, 80), 2);
        told("line.answer(25)", LINE.answer(25), 5);
        told("line.ask(8, 1L, 0, 32, 240)", "LampLine.NONE", LINE.ask(8, 1L, 0, 32, 240), LampLine.NONE);
    }

    private static void search() {
        told("line.search()", LINE.search(), 1);
        told("line.step(1000)", LINE.step(1000), 0);
        told("line.found()", LINE.found(), 1);
        told("line.id(0)", LINE.id(0), 30370190968L);
        told("line.about(0, 5)", LINE.about(0, 5), 1);
    }
}
