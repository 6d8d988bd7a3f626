/**
 * The edges of "3 THE CODE" and of promises 5 and 7 to 11, sentence by sentence, each on both of its sides: TOO MUCH,
 * code that is as large as it may be, and the calls that look into it.
 */
public final class EdgesOfCodeTest {
    private static final int LEAST = Integer.MIN_VALUE;
    private static final int MOST = Integer.MAX_VALUE;

    public static void main(String[] args) {
        moreThan400Instructions();
        moreThan300Registers();
        bothAtOnce();
        whatTooMuchLeaves();
        ringsOfCallsThatAreTooMuch();
        theLastOf400();
        theLastOf300();
        aFullCodeOfExpressions();
        whereWordsOfRegistersMeet();
        highAndLowRegisters();
        theStateComesFirst();
        indexesOfCode();
        fieldsThatItHasNot();
        indexesOfKnown();
        whatIsKnownAtItsEdges();
        indexesOfLive();
        registersOfColours();
        coloursFromNoneToMany();
        the512thCall();
        Press.end("EdgesOfCodeTest");
    }

    private static void lowersTo(String text, int count) {
        Press p = Press.of(text);
        String name = text.length() > 90 ? text.substring(0, 90) + " .." : text;
        Press.due("lower() of " + name, p.x.lower(), count);
        Press.due("told(3) of " + name, p.x.told(3), Math.max(count, 0));
    }

    /** The statement has so many instructions each: with it at the end there are 399, 400 and 401. */
    private static void fills(String decls, String statement, int each) {
        int rest = 399 - 20 * each;
        lowersTo(decls + "a=1;".repeat(rest - 1) + statement.repeat(20), 399);
        lowersTo(decls + "a=1;".repeat(rest) + statement.repeat(20), 400);
        lowersTo(decls + "a=1;".repeat(rest + 1) + statement.repeat(20), WhilePress.TOO_MUCH);
    }

    /** More than 400 instructions: TOO MUCH. */
    private static void moreThan400Instructions() {
        String decls = "int a;row r[1];";
        fills(decls, "a=1;", 1);
        fills(decls, "r[0]=1;", 1);
        fills(decls, "read a;", 1);
        fills(decls, "if(1){}", 1);
        fills(decls, "while(1){}", 2);
        fills(decls, "do{}while(1);", 1);
        fills(decls, "if(1){}else{}", 2);
        fills(decls, "a=a;", 2);
        fills(decls, "a=-1;", 2);
        fills(decls, "a=1+1;", 2);
        fills(decls, "a=r[0];", 2);
        fills(decls, "a=1&&1;", 4);
        fills(decls, "a=1||1;", 4);
        fills(decls, "r[a]=a;", 3);
        fills(decls, "print a;", 2);
        fills(decls, "while(1)break;", 3);
        fills(decls, "while(1)next;", 3);
        fills(decls, "{int b,c;}", 2);
        fills(decls + "def f(x,y){}", "f(1,2);", 3);
        fills(decls + "def f(){return 1;}", "f();", 3);
        fills(decls + "def f(){return 1;}", "a=f();", 4);
        // The HALT alone may be the one too many.
        lowersTo("int a;" + "a=1;".repeat(398), 399);
        lowersTo("int a;" + "a=1;".repeat(399), 400);
        lowersTo("int a;" + "a=1;".repeat(400), WhilePress.TOO_MUCH);
        lowersTo("", 1);
    }

    private static String ints(int n) {
        return "int " + String.join(",", Press.names(n)) + ";";
    }

    /** The statement takes so many registers: with the ints of decls there are 300, and with one int more 301. */
    private static void takes(String decls, String statement, int each, int times) {
        int rest = 300 - each * times;
        Press p = Press.of(ints(rest) + decls + statement.repeat(times));
        Press.due("is it too much with 300: " + statement, p.x.lower() == WhilePress.TOO_MUCH ? 1 : 0, 0);
        Press.due("told(4) with 300: " + statement, p.x.told(4), 300);
        Press q = Press.of(ints(rest + 1) + decls + statement.repeat(times));
        Press.due("lower() with 301: " + statement, q.x.lower(), WhilePress.TOO_MUCH);
        Press.due("told(4) with 301: " + statement, q.x.told(4), 0);
        Press r = Press.of(ints(rest - 1) + decls + statement.repeat(times));
        Press.due("is it too much with 299: " + statement, r.x.lower() == WhilePress.TOO_MUCH ? 1 : 0, 0);
        Press.due("told(4) with 299: " + statement, r.x.told(4), 299);
    }

    /** More than 300 registers: TOO MUCH. */
    private static void moreThan300Registers() {
        takes("", "", 0, 0);
        takes("", "a=a;", 1, 150);
        takes("", "a=-1;", 1, 150);
        takes("", "a=1+1;", 1, 150);
        takes("", "a=1&&1;", 1, 90);
        takes("", "a=1||1;", 1, 90);
        takes("row zz[1];", "a=zz[0];", 1, 150);
        takes("", "{int zz;}", 1, 120);
        takes("", "{int zz,zy,zx;}", 3, 60);
        takes("def zz(){}", "zz();", 1, 150);
        takes("def zz(x){}", "zz(1);", 2, 100);
        takes("def zz(x,y,z,u,v,w){}", "zz(1,2,3,4,5,6);", 7, 42);
        takes("def zz(){int x;}", "zz();", 2, 100);
        // Rows take none.
        lowersTo(ints(300) + "row zz[1];row zy[100];", 1);
        lowersTo(ints(301) + "row zz[1];", WhilePress.TOO_MUCH);
        Press block = Press.of("{" + ints(300) + "}");
        Press.due("300 of a block", block.x.lower(), 301);
        Press.due("told(4)", block.x.told(4), 300);
        lowersTo("{" + ints(301) + "}", WhilePress.TOO_MUCH);
        lowersTo(ints(700), WhilePress.TOO_MUCH);
        lowersTo("{" + ints(700) + "}", WhilePress.TOO_MUCH);
    }

    private static void bothAtOnce() {
        // 200, 100 and 99 instructions; 100, 50 and 66 registers.
        Press q = Press.of(ints(84) + "print a;".repeat(100) + "a=b;".repeat(50) + "a=a+1;".repeat(33));
        Press.due("400 instructions with 300 registers", q.x.lower(), 400);
        Press.due("told(4)", q.x.told(4), 300);
        lowersTo(ints(85) + "print a;".repeat(100) + "a=b;".repeat(50) + "a=a+1;".repeat(33), WhilePress.TOO_MUCH);
        lowersTo(ints(84) + "print a;".repeat(100) + "a=b;".repeat(50) + "a=a+1;".repeat(33) + "a=1;", WhilePress.TOO_MUCH);
        q.x.improve();
        for (int which = 0; which < 4; which++) {
            Press.due("run " + which, q.x.run(which, 1000), 0);
            Press.due("its prints", q.x.told(0), 100);
        }
    }

    /** How many instructions; TOO_MUCH: nothing is lowered then, and the TEXT stays. */
    private static void whatTooMuchLeaves() {
        Press p = Press.improved("print 5;");
        p.x.run(1, 9);
        p.read("int a;" + "a=1;".repeat(400) + "print a;");
        Press.due("too much", p.x.lower(), WhilePress.TOO_MUCH);
        Press.dueThrow("improve()", "IllegalStateException", () -> p.x.improve());
        Press.dueThrow("code(false)", "IllegalStateException", () -> p.x.code(false, 0, 0));
        Press.dueThrow("code(true)", "IllegalStateException", () -> p.x.code(true, 0, 0));
        Press.dueThrow("isKnown()", "IllegalStateException", () -> p.x.isKnown(0, 0) ? 1 : 0);
        Press.dueThrow("known()", "IllegalStateException", () -> p.x.known(0, 0));
        Press.dueThrow("isLive(false)", "IllegalStateException", () -> p.x.isLive(false, 0, 0) ? 1 : 0);
        Press.dueThrow("isLive(true)", "IllegalStateException", () -> p.x.isLive(true, 0, 0) ? 1 : 0);
        Press.dueThrow("colour()", "IllegalStateException", () -> p.x.colour(0));
        for (int which = 1; which < 4; which++) {
            int w = which;
            Press.dueThrow("run(" + w + ")", "IllegalStateException", () -> p.x.run(w, 5));
        }
        for (int what = 3; what < 8; what++) {
            Press.due("told(" + what + ")", p.x.told(what), 0);
        }
        Press.due("printed(0) of the run before", p.x.printed(0), 5);
        Press.dueText("the text runs", p.shown(0), "0: 1");
        Press.due("place()", p.x.place(), -1);
        p.read("print 6;");
        Press.due("a smaller text", p.x.lower(), 2);
        Press.due("improve()", p.x.improve(), 2);
        Press.dueText("it runs", p.shown(3), "0: 6");
    }

    /** Defs laid in at each call may double what comes before, again and again. */
    private static void ringsOfCallsThatAreTooMuch() {
        StringBuilder text = new StringBuilder("def f0(){}");
        for (int k = 1; k < 15; k++) {
            text.append("def f" + k + "(){f" + (k - 1) + "();f" + (k - 1) + "();}");
        }
        int[] counts = {2, 4, 8, 16, 32, 64, 128, 256};
        for (int k = 0; k < 8; k++) {
            lowersTo(text + "f" + k + "();", counts[k]);
        }
        for (int k = 8; k < 15; k++) {
            lowersTo(text + "f" + k + "();", WhilePress.TOO_MUCH);
        }
        Press p = Press.of(text + "f14();f14();");
        // Each call is a statement that is begun.
        Press.dueText("its run", p.run(0, 100000), "0: (0, 65534)");
    }

    /** 133 ints that are read, and printed then: 133 and 266 instructions, and the HALT. */
    private static String readAndPrint(int n) {
        StringBuilder text = new StringBuilder(ints(n));
        for (String name : Press.names(n)) {
            text.append("read ").append(name).append(';');
        }
        for (String name : Press.names(n)) {
            text.append("print ").append(name).append(';');
        }
        return text.toString();
    }

    private static void theLastOf400() {
        Press p = Press.of(readAndPrint(133));
        Press.due("lower()", p.x.lower(), 400);
        Press.due("told(4)", p.x.told(4), 266);
        Press.due("the first is a READ", p.x.code(false, 0, 0), 23);
        Press.due("the last is the HALT", p.x.code(false, 399, 0), 28);
        Press.due("the last PRINT", p.x.code(false, 398, 0), 24);
        Press.due("its register", p.x.code(false, 398, 2), 265);
        Press.due("the COPY before it, D", p.x.code(false, 397, 1), 265);
        Press.due("and A", p.x.code(false, 397, 2), 132);
        Press.dueThrow("code(false, 400, 0)", "IndexOutOfBoundsException", () -> p.x.code(false, 400, 0));
        Press.due("live behind the COPY", p.x.isLive(false, 397, 265) ? 1 : 0, 1);
        Press.due("no more live", p.x.isLive(false, 398, 265) ? 1 : 0, 0);
        Press.due("live before it", p.x.isLive(false, 396, 132) ? 1 : 0, 1);
        Press.due("no more live behind it", p.x.isLive(false, 397, 132) ? 1 : 0, 0);
        Press.due("behind the HALT nothing is live", p.x.isLive(false, 399, 132) ? 1 : 0, 0);
        Press.dueThrow("isLive(false, 400, 0)", "IndexOutOfBoundsException", () -> p.x.isLive(false, 400, 0) ? 1 : 0);
        Press.due("known before the first READ", p.x.isKnown(0, 132) ? 1 : 0, 1);
        Press.due("known before its READ", p.x.isKnown(132, 132) ? 1 : 0, 1);
        Press.due("not known behind its READ", p.x.isKnown(133, 132) ? 1 : 0, 0);
        Press.due("known before its COPY", p.x.isKnown(397, 265) ? 1 : 0, 1);
        Press.due("not known behind its COPY", p.x.isKnown(398, 265) ? 1 : 0, 0);
        Press.due("nor before the HALT", p.x.isKnown(399, 265) ? 1 : 0, 0);
        Press.dueThrow("known(400, 0)", "IndexOutOfBoundsException", () -> p.x.known(400, 0));
        Press.due("improve()", p.x.improve(), 267);
        Press.due("rounds", p.x.told(7), 2);
        Press.due("colours", p.x.told(6), 133);
        for (int r = 0; r < 266; r++) {
            Press.due("colour(" + r + ")", p.x.colour(r), r < 133 ? r : -1);
        }
        Press q = Press.improved(readAndPrint(133));
        for (int k = 0; k < 133; k++) {
            q.x.input(1000 - k);
        }
        for (int which = 0; which < 4; which++) {
            Press.due("run " + which, q.x.run(which, 400), 0);
            Press.due("its fuel", q.x.told(2), which == 0 ? 266 : which == 1 ? 400 : 267);
            Press.due("its first number", q.x.printed(0), 1000);
            Press.due("its last number", q.x.printed(132), 868);
        }
        lowersTo(readAndPrint(133) + "a=1;", WhilePress.TOO_MUCH);
    }

    private static void theLastOf300() {
        // The last int is register 297, and the two prints have 298 and 299.
        String[] names = Press.names(298);
        String last = names[297];
        Press p = Press.of(ints(298) + "read " + last + ";a=7;print " + last + ";print a;");
        Press.due("lower()", p.x.lower(), 7);
        Press.dueText("its code", p.listing(false),
            "READ r297; SET r0 7; COPY r298 r297; PRINT r298; COPY r299 r0; PRINT r299; HALT");
        Press.due("known(6, 299)", p.x.known(6, 299), 7);
        Press.due("isKnown(6, 299)", p.x.isKnown(6, 299) ? 1 : 0, 1);
        Press.due("isKnown(6, 298)", p.x.isKnown(6, 298) ? 1 : 0, 0);
        Press.due("isKnown(0, 297)", p.x.isKnown(0, 297) ? 1 : 0, 1);
        Press.due("isKnown(1, 297)", p.x.isKnown(1, 297) ? 1 : 0, 0);
        Press.dueThrow("isKnown(6, 300)", "IndexOutOfBoundsException", () -> p.x.isKnown(6, 300) ? 1 : 0);
        Press.due("isLive(false, 4, 299)", p.x.isLive(false, 4, 299) ? 1 : 0, 1);
        Press.due("isLive(false, 5, 299)", p.x.isLive(false, 5, 299) ? 1 : 0, 0);
        Press.dueThrow("isLive(false, 5, 300)", "IndexOutOfBoundsException", () -> p.x.isLive(false, 5, 300) ? 1 : 0);
        Press.due("improve()", p.x.improve(), 4);
        Press.dueText("its improved code", p.listing(true), "READ r297; PRINT r297; PRINT 7; HALT");
        Press.due("isLive(true, 0, 297)", p.x.isLive(true, 0, 297) ? 1 : 0, 1);
        Press.due("isLive(true, 1, 297)", p.x.isLive(true, 1, 297) ? 1 : 0, 0);
        Press.due("isLive(true, 0, 299)", p.x.isLive(true, 0, 299) ? 1 : 0, 0);
        Press.dueThrow("isLive(true, 0, 300)", "IndexOutOfBoundsException", () -> p.x.isLive(true, 0, 300) ? 1 : 0);
        Press.due("colour(297)", p.x.colour(297), 0);
        Press.due("colour(299)", p.x.colour(299), -1);
        Press.dueThrow("colour(300)", "IndexOutOfBoundsException", () -> p.x.colour(300));
        Press.dueText("by colours", p.input(-9).shown(3), "0: -9 7");
    }

    /** As many different expressions as there is room for, each held by a register of its own. */
    private static void aFullCodeOfExpressions() {
        becomes("int a;read a;" + "a=a;".repeat(198) + "print a;", 400, 3);
        // 130 that are needed, and then the last of them again.
        StringBuilder text = new StringBuilder("int a;row r[1];read a;");
        StringBuilder want = new StringBuilder("READ r0");
        for (int k = 1; k <= 130; k++) {
            text.append("print a+").append(k).append(";");
            want.append("; + r").append(2 * k).append(" r0 ").append(k).append("; PRINT r").append(2 * k);
        }
        Press.dueText("all are other ones", Press.improved(text.toString()).listing(true), want + "; HALT");
        int[] again = {1, 31, 32, 33, 63, 64, 65, 126, 127, 128, 129, 130};
        for (int k : again) {
            Press p = Press.improved(text + "print a+" + k + ";");
            Press.dueText(k + " again", p.listing(true), want + "; PRINT r" + 2 * k + "; HALT");
        }
    }

    private static void becomes(String text, int lowered, int improved) {
        Press p = Press.of(text);
        Press.due("lower() of " + text, p.x.lower(), lowered);
        Press.due("improve() of " + text, p.x.improve(), improved);
    }

    /** Registers of high and low numbers that live at once, with the operands on either side. */
    private static void highAndLowRegisters() {
        String[] names = Press.names(250);
        int[] some = {0, 1, 31, 32, 63, 64, 65, 127, 128, 191, 192, 200, 248, 249};
        for (int one : some) {
            for (int two : some) {
                if (one == two) {
                    continue;
                }
                String a = names[one];
                String b = names[two];
                Press p = Press.of(ints(250) + "read " + a + ";read " + b + ";print " + a + "-" + b + ";");
                p.x.lower();
                Press.due(one + " is live beside " + two, p.x.isLive(false, 1, one) ? 1 : 0, 1);
                Press.due(two + " is live beside " + one, p.x.isLive(false, 1, two) ? 1 : 0, 1);
                Press.due(one + " is not live behind its COPY", p.x.isLive(false, 2, one) ? 1 : 0, 0);
                Press.due(two + " is live there", p.x.isLive(false, 2, two) ? 1 : 0, 1);
                p.x.improve();
                Press.due("colour of the lower one", p.x.colour(Math.min(one, two)), 0);
                Press.due("colour of the higher one", p.x.colour(Math.max(one, two)), 1);
                Press.due("live as B", p.x.isLive(true, 1, two) ? 1 : 0, 1);
                Press.due("live as A", p.x.isLive(true, 1, one) ? 1 : 0, 1);
                Press.dueText("by colours", p.input(50, 8).shown(3), "0: 42");
            }
        }
    }

    /** Every register has its own life, with whatever others it may be kept. */
    private static void whereWordsOfRegistersMeet() {
        int[] pairs = {0, 1, 7, 8, 31, 32, 33, 63, 64, 65, 127, 128, 129, 191, 192, 255, 256, 257, 296};
        String[] names = Press.names(297);
        for (int r : pairs) {
            Press p = Press.of(ints(297) + "read " + names[r] + ";print " + names[r] + ";");
            p.x.lower();
            for (int other : pairs) {
                Press.due("live behind the READ of " + r + ": " + other, p.x.isLive(false, 0, other) ? 1 : 0, other == r ? 1 : 0);
                Press.due("known behind the READ of " + r + ": " + other, p.x.isKnown(1, other) ? 1 : 0, other == r ? 0 : 1);
            }
            p.x.improve();
            for (int other : pairs) {
                Press.due("colour of " + other + " beside " + r, p.x.colour(other), other == r ? 0 : -1);
                Press.due("live in the improved code: " + other, p.x.isLive(true, 0, other) ? 1 : 0, other == r ? 1 : 0);
            }
        }
    }

    /** In code(), isKnown(), known(), isLive(), colour() IllegalStateException comes first. */
    private static void theStateComesFirst() {
        int[] wrong = {-1, 0, 3, 400, LEAST, MOST};
        Press none = new Press();
        Press read = Press.of("int a;print a;");
        Press lowered = Press.of("int a;print a;");
        lowered.x.lower();
        Press[] all = {none, read, lowered};
        for (Press p : all) {
            for (int i : wrong) {
                Press.dueThrow("code(true, " + i + ")", "IllegalStateException", () -> p.x.code(true, i, i));
                Press.dueThrow("isLive(true, " + i + ")", "IllegalStateException", () -> p.x.isLive(true, i, i) ? 1 : 0);
                Press.dueThrow("colour(" + i + ")", "IllegalStateException", () -> p.x.colour(i));
                if (p != lowered) {
                    Press.dueThrow("code(false, " + i + ")", "IllegalStateException", () -> p.x.code(false, i, i));
                    Press.dueThrow("isKnown(" + i + ")", "IllegalStateException", () -> p.x.isKnown(i, i) ? 1 : 0);
                    Press.dueThrow("known(" + i + ")", "IllegalStateException", () -> p.x.known(i, i));
                    Press.dueThrow("isLive(false, " + i + ")", "IllegalStateException", () -> p.x.isLive(false, i, i) ? 1 : 0);
                }
            }
        }
        Press.dueThrow("lower() of a new one", "IllegalStateException", () -> none.x.lower());
        Press.dueThrow("improve() of a new one", "IllegalStateException", () -> none.x.improve());
        Press.dueThrow("improve() of what was read alone", "IllegalStateException", () -> read.x.improve());
        Press.due("lower() of what was read", read.x.lower(), 3);
        Press.due("lower() again", read.x.lower(), 3);
        Press.due("improve() of what was lowered", read.x.improve(), 2);
    }

    /** IndexOutOfBoundsException (also of what). */
    private static void indexesOfCode() {
        Press p = Press.improved("int a;read a;print a;");
        // READ, COPY, PRINT, HALT; improved READ, PRINT, HALT.
        boolean[] both = {false, true};
        for (boolean improved : both) {
            int n = improved ? 3 : 4;
            for (int i = -2; i < 7; i++) {
                for (int what = -2; what < 8; what++) {
                    int at = i;
                    int field = what;
                    boolean is = i >= 0 && i < n && what >= 0 && what <= 4;
                    String got = Press.told(() -> p.x.code(improved, at, field));
                    Press.dueText("code(" + improved + ", " + i + ", " + what + ") is there", is && got.length() < 4 ? "" : got,
                        is ? "" : "IndexOutOfBoundsException");
                }
            }
            int[] far = {LEAST, MOST, -400, 399, 400};
            for (int f : far) {
                Press.dueThrow("code(" + improved + ", " + f + ", 0)", "IndexOutOfBoundsException", () -> p.x.code(improved, f, 0));
                Press.dueThrow("code(" + improved + ", 0, " + f + ")", "IndexOutOfBoundsException", () -> p.x.code(improved, 0, f));
            }
            Press.due("the first", p.x.code(improved, 0, 0), 23);
            Press.due("the last", p.x.code(improved, n - 1, 0), 28);
        }
    }

    /** 0 OP, 1 D, 2 A, 3 B (0 for those that it has not), 4 one if A is a constant, and two more if B is one (a row is none). */
    private static void fieldsThatItHasNot() {
        Press p = Press.of("int a,b;row q[3];row r[9];read b;r[2]=b;r[b]=6;r[7]=8;a=r[8];a=r[b];a=b+9;a=9-b;a=3*4;a=-b;a=-5;print b;print 4;");
        p.x.lower();
        int[][] want = {
            {23, 1, 0, 0, 0}, {1, 2, 1, 0, 0}, {22, 1, 2, 2, 1}, {1, 3, 1, 0, 0}, {22, 1, 3, 6, 2}, {22, 1, 7, 8, 3},
            {21, 4, 8, 1, 1}, {1, 0, 4, 0, 0}, {1, 5, 1, 0, 0}, {21, 6, 5, 1, 0}, {1, 0, 6, 0, 0},
            {1, 7, 1, 0, 0}, {2, 8, 7, 9, 2}, {1, 0, 8, 0, 0}, {1, 9, 1, 0, 0}, {3, 10, 9, 9, 1}, {1, 0, 10, 0, 0},
            {4, 11, 3, 4, 3}, {1, 0, 11, 0, 0}, {1, 12, 1, 0, 0}, {18, 13, 12, 0, 0}, {1, 0, 13, 0, 0},
            {18, 14, 5, 0, 1}, {1, 0, 14, 0, 0}, {1, 15, 1, 0, 0}, {24, 0, 15, 0, 0}, {24, 0, 4, 0, 1}, {28, 0, 0, 0, 0}};
        Press.due("so many", p.x.told(3), want.length);
        for (int i = 0; i < want.length; i++) {
            for (int what = 0; what < 5; what++) {
                Press.due("code(false, " + i + ", " + what + ")", p.x.code(false, i, what), want[i][what]);
            }
        }
        Press q = Press.of("int a;while(1)a=0;do{}while(a);if(a){}else a=1;");
        q.x.lower();
        int[][] ways = {{26, 3, 1, 0, 1}, {0, 0, 0, 0, 1}, {25, 0, 0, 0, 0}, {1, 1, 0, 0, 0}, {27, 3, 1, 0, 0}, {1, 2, 0, 0, 0},
            {26, 8, 2, 0, 0}, {25, 9, 0, 0, 0}, {0, 0, 1, 0, 1}, {28, 0, 0, 0, 0}};
        for (int i = 0; i < ways.length; i++) {
            for (int what = 0; what < 5; what++) {
                Press.due("code(false, " + i + ", " + what + ") of ways", q.x.code(false, i, what), ways[i][what]);
            }
        }
        // What became something else in the improved code has only the fields that it has then.
        Press r = Press.improved("int a;read a;print a*2+a*2;if(a*2)print 3-1;while(1)print a;");
        Press.dueText("improved", r.listing(true),
            "READ r0; * r2 r0 2; + r5 r2 r2; PRINT r5; ZERO 6 r2; PRINT 2; PRINT r0; JUMP 6");
    }

    /** IndexOutOfBoundsException (of i, of the register). */
    private static void indexesOfKnown() {
        Press p = Press.of("int a,b;a=5;");
        p.x.lower();
        for (int times = 0; times < 2; times++) {
            for (int i = -2; i < 5; i++) {
                for (int r = -2; r < 5; r++) {
                    int at = i;
                    int register = r;
                    boolean is = i >= 0 && i < 2 && r >= 0 && r < 2;
                    int number = i == 1 && r == 0 ? 5 : 0;
                    Press.dueText("isKnown(" + i + ", " + r + ")", Press.told(() -> p.x.isKnown(at, register) ? 1 : 0),
                        is ? "1" : "IndexOutOfBoundsException");
                    Press.dueText("known(" + i + ", " + r + ")", Press.told(() -> p.x.known(at, register)),
                        is ? "" + number : "IndexOutOfBoundsException");
                }
            }
            int[] far = {LEAST, MOST, 299, 300, 399, 400, -300};
            for (int f : far) {
                Press.dueThrow("isKnown(" + f + ", 0)", "IndexOutOfBoundsException", () -> p.x.isKnown(f, 0) ? 1 : 0);
                Press.dueThrow("isKnown(0, " + f + ")", "IndexOutOfBoundsException", () -> p.x.isKnown(0, f) ? 1 : 0);
                Press.dueThrow("known(" + f + ", 0)", "IndexOutOfBoundsException", () -> p.x.known(f, 0));
                Press.dueThrow("known(0, " + f + ")", "IndexOutOfBoundsException", () -> p.x.known(0, f));
            }
            // The improved code is shorter; it is the code that counts.
            p.x.improve();
        }
        Press none = Press.of("print 1;");
        none.x.lower();
        Press.dueThrow("code without registers", "IndexOutOfBoundsException", () -> none.x.isKnown(0, 0) ? 1 : 0);
        Press.dueThrow("code without registers, known", "IndexOutOfBoundsException", () -> none.x.known(0, 0));
    }

    /** Whether a register is known; that number; 0 when it is not known; false also where i can't be come to. */
    private static void whatIsKnownAtItsEdges() {
        int[] numbers = {LEAST, LEAST + 1, -1, 0, 1, MOST};
        for (int v : numbers) {
            Press p = Press.of("int a;a=" + Press.number(v) + ";");
            int n = p.x.lower();
            Press.due("isKnown of " + v, p.x.isKnown(n - 1, 0) ? 1 : 0, 1);
            Press.due("known of " + v, p.x.known(n - 1, 0), v);
        }
        // 0 because it is known to be 0, and 0 because it is not known.
        Press p = Press.of("int a,b;read b;");
        p.x.lower();
        Press.due("a is known", p.x.isKnown(1, 0) ? 1 : 0, 1);
        Press.due("a", p.x.known(1, 0), 0);
        Press.due("b is not known", p.x.isKnown(1, 1) ? 1 : 0, 0);
        Press.due("b", p.x.known(1, 1), 0);
        // ZERO 2 0; PRINT 1; HALT: the PRINT can't be come to.
        Press q = Press.of("int a;a=6;if(0)print 1;");
        q.x.lower();
        Press.due("before the ZERO", q.x.known(1, 0), 6);
        Press.due("where it can't be come to", q.x.isKnown(2, 0) ? 1 : 0, 0);
        Press.due("where it can't be come to", q.x.known(2, 0), 0);
        Press.due("behind it", q.x.known(3, 0), 6);
        // Divided by 0 nothing is known; by 1 and -1 it is.
        Press r = Press.of("int a,b,c,d;a=6/0;b=6/1;c=6%0;d=6/-1;");
        int n = r.x.lower();
        int[] known = {0, 1, 0, 1};
        int[] due = {0, 6, 0, -6};
        for (int k = 0; k < 4; k++) {
            Press.due("isKnown of " + k, r.x.isKnown(n - 1, k) ? 1 : 0, known[k]);
            Press.due("known of " + k, r.x.known(n - 1, k), due[k]);
        }
    }

    /** IndexOutOfBoundsException (of i, of a register that the code has not). */
    private static void indexesOfLive() {
        Press p = Press.improved("int a;read a;print a;");
        boolean[] both = {false, true};
        for (boolean improved : both) {
            int n = improved ? 3 : 4;
            for (int i = -2; i < 7; i++) {
                for (int r = -2; r < 5; r++) {
                    int at = i;
                    int register = r;
                    boolean is = i >= 0 && i < n && r >= 0 && r < 2;
                    boolean isLive = i == 0 && r == 0 || !improved && i == 1 && r == 1;
                    Press.dueText("isLive(" + improved + ", " + i + ", " + r + ")",
                        Press.told(() -> p.x.isLive(improved, at, register) ? 1 : 0),
                        is ? isLive ? "1" : "0" : "IndexOutOfBoundsException");
                }
            }
            int[] far = {LEAST, MOST, 299, 300, 399, 400, -300};
            for (int f : far) {
                Press.dueThrow("isLive(.., " + f + ", 0)", "IndexOutOfBoundsException", () -> p.x.isLive(improved, f, 0) ? 1 : 0);
                Press.dueThrow("isLive(.., 0, " + f + ")", "IndexOutOfBoundsException", () -> p.x.isLive(improved, 0, f) ? 1 : 0);
            }
        }
        Press none = Press.improved("print 1;");
        Press.dueThrow("code without registers", "IndexOutOfBoundsException", () -> none.x.isLive(false, 0, 0) ? 1 : 0);
        Press.dueThrow("improved code without registers", "IndexOutOfBoundsException", () -> none.x.isLive(true, 0, 0) ? 1 : 0);
    }

    /** The colour of a register; NONE when the improved code neither defines nor uses it. IndexOutOfBoundsException. */
    private static void registersOfColours() {
        Press p = Press.improved("int a,b,c;read b;print b+c;");
        // READ r1; + r5 r1 0; PRINT r5; HALT
        int[] due = {-1, 0, -1, -1, -1, 0};
        for (int r = -3; r < 10; r++) {
            int register = r;
            Press.dueText("colour(" + r + ")", Press.told(() -> p.x.colour(register)),
                r >= 0 && r < 6 ? "" + due[r] : "IndexOutOfBoundsException");
        }
        int[] far = {LEAST, MOST, 299, 300, -300};
        for (int f : far) {
            Press.dueThrow("colour(" + f + ")", "IndexOutOfBoundsException", () -> p.x.colour(f));
        }
        Press none = Press.improved("print 1;");
        Press.dueThrow("colour(0) without registers", "IndexOutOfBoundsException", () -> none.x.colour(0));
        // One that is only defined, and one that is only used.
        Press q = Press.improved("int a,b,i;read a;while(i<3){print b;i=i+1;}");
        Press.due("defined and never used", q.x.colour(0), 0);
        Press r = Press.improved("int a,b;do{read a;print b;if(a)b=a;}while(1);");
        Press.due("live all the time", r.x.colour(1) == r.x.colour(0) ? 1 : 0, 0);
    }

    /** By rising numbers each gets the least colour, from 0, that none apart from it before has. */
    private static void coloursFromNoneToMany() {
        Press none = Press.improved("print 1;");
        Press.due("no colours", none.x.told(6), 0);
        int[] sizes = {1, 2, 3, 63, 64, 65, 66, 100, 128, 129};
        for (int n : sizes) {
            Press p = Press.improved(readAndPrint(n));
            Press.due("colours of " + n, p.x.told(6), n);
            Press.due("the last colour", p.x.colour(n - 1), n - 1);
            Press.due("the first colour", p.x.colour(0), 0);
        }
        // Each printed before the next is read: one colour is enough.
        StringBuilder text = new StringBuilder(ints(90));
        for (String name : Press.names(90)) {
            text.append("read ").append(name).append(";print ").append(name).append(';');
        }
        Press p = Press.improved(text.toString());
        Press.due("one colour", p.x.told(6), 1);
        for (int r = 0; r < 90; r++) {
            Press.due("colour(" + r + ")", p.x.colour(r), 0);
        }
    }

    /** An object is used for at most 512 calls after it has been made. */
    private static void the512thCall() {
        WhilePress x = new WhilePress();
        String text = "print 1;".repeat(374) + "print 9;";
        int calls = 0;
        for (int at = 0; at < 3000; at += 8) {
            long row = 0;
            for (int k = 0; k < 8; k++) {
                row |= (long) text.charAt(at + k) << 8 * k;
            }
            x.feed(row, 8);
            calls++;
        }
        Press.due("read() of a full tape", x.read(), 375);
        Press.due("lower() of it", x.lower(), 376);
        Press.due("improve() of it", x.improve(), 376);
        Press.due("run of it", x.run(3, 300), 6);
        calls += 4;
        for (; calls < 511; calls++) {
            Press.due("code()", x.code(true, calls - 375, 0), 24);
        }
        Press.due("the 512th call", x.run(3, 301), 8);
    }
}
