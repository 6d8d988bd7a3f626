/** Promises 1 and 2: a new object, and feed. */
public final class FeedTest {
    public static void main(String[] args) {
        aNewObject();
        whatMayBeFed();
        whatMayNotBeFed();
        theTapesEnd();
        Press.end("FeedTest");
    }

    private static void aNewObject() {
        Counted x = new Counted();
        Press.due("NONE", WhilePress.NONE, -1);
        Press.due("TOO_MUCH", WhilePress.TOO_MUCH, -7);
        Press.due("place() at first", x.place(), -1);
        for (int what = 0; what <= 7; what++) {
            Press.due("told(" + what + ") at first", x.told(what), 0);
        }
        Press.dueThrow("lower() at first", "IllegalStateException", () -> x.lower());
        Press.dueThrow("improve() at first", "IllegalStateException", () -> x.improve());
        for (int which = 0; which < 4; which++) {
            int w = which;
            Press.dueThrow("run(" + w + ", 1) at first", "IllegalStateException", () -> x.run(w, 1));
        }
        Press.dueThrow("printed(0) at first", "IndexOutOfBoundsException", () -> x.printed(0));
        Press.due("clear() at first", x.clear(), 0);
        Press.due("the first feed", x.feed(' ', 1), 1);
        Press.due("read() of a space", x.read(), 0);
    }

    private static void whatMayBeFed() {
        Counted x = new Counted();
        Press.due("8 bytes", x.feed(0x2020202020202020L, 8), 8);
        Press.due("the lowest byte alone counts", x.feed(0xFFFFFFFFFFFFFF00L | 'a', 1), 9);
        Press.due("byte 10", x.feed(10, 1), 10);
        Press.due("byte 32", x.feed(32, 1), 11);
        Press.due("byte 126", x.feed(126, 1), 12);
        Press.due("byte 126 as the eighth", x.feed(0x7E20202020202020L, 8), 20);
        Press.due("read() of a bad word", x.read(), -2);
        Press.due("the lowest byte comes first", new Press().feed("print 1;").x.read(), 1);
        Counted y = new Counted();
        y.feed('p' | 'r' << 8 | 'i' << 16, 3);
        y.feed('n' | 't' << 8, 2);
        y.feed(' ' | '7' << 8 | ';' << 16 | 0xFF000000, 3);
        Press.due("read() of three feeds", y.read(), 1);
        Press.due("run of three feeds", y.run(0, 5), 0);
        Press.due("what it printed", y.printed(0), 7);
    }

    private static void whatMayNotBeFed() {
        Counted x = new Counted();
        int[] wrongN = {0, -1, 9, 64, Integer.MIN_VALUE, Integer.MAX_VALUE};
        for (int n : wrongN) {
            Press.dueThrow("feed(.., " + n + ")", "IllegalArgumentException", () -> x.feed(0x2020202020202020L, n));
        }
        int[] wrongBytes = {0, 1, 9, 11, 13, 31, 127, 128, 160, 255};
        for (int b : wrongBytes) {
            for (int at = 0; at < 8; at++) {
                long row = 0x2020202020202020L & ~(255L << 8 * at) | (long) b << 8 * at;
                int n = at + 1;
                Press.dueThrow("byte " + b + " at " + at, "IllegalArgumentException", () -> x.feed(row, n));
            }
        }
        Press.due("nothing came behind the tape", x.feed(' ', 1), 1);
        Press.due("a wrong byte behind the n lowest ones", x.feed(0x0120L, 1), 2);
    }

    private static void theTapesEnd() {
        Counted x = new Counted();
        for (int k = 0; k < 374; k++) {
            x.feed(0x2020202020202020L, 8);
        }
        Press.due("2996 bytes", x.feed(0x20202020L, 4), 2996);
        Press.dueThrow("more than 3000", "IllegalStateException", () -> x.feed(0x2020202020L, 5));
        Press.dueThrow("a wrong byte comes first", "IllegalArgumentException", () -> x.feed(0x0120202020L, 5));
        Press.dueThrow("a wrong n comes first", "IllegalArgumentException", () -> x.feed(0x20L, 9));
        Press.due("3000 bytes", x.feed(0x20202020L, 4), 3000);
        Press.dueThrow("3001 bytes", "IllegalStateException", () -> x.feed(32, 1));
        Press.due("read() of 3000 spaces", x.read(), 0);
        Press.due("the tape is empty then", x.feed(32, 1), 1);

        Press p = new Press();
        StringBuilder text = new StringBuilder("int a;");
        while (text.length() + 4 <= 3000) {
            text.append("a=1;");
        }
        text.append(" ".repeat(3000 - text.length()));
        Press.due("a text of 3000 bytes", p.read(text.toString()), 748);
        Press.due("its code", p.x.lower(), WhilePress.TOO_MUCH);
        Press.dueText("its run", p.run(0, 1000), "0: (0, 748)");
    }
}
