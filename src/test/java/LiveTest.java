/** Promises 10 and 11: isLive and colour. */
public final class LiveTest {
    public static void main(String[] args) {
        straight();
        ways();
        improvedOnes();
        colours();
        wrongCalls();
        Press.end("LiveTest");
    }

    private static String behind(Press p, boolean improved, int i) {
        StringBuilder out = new StringBuilder();
        for (int r = 0; r < p.x.told(4); r++) {
            if (p.x.isLive(improved, i, r)) {
                out.append(out.length() == 0 ? "" : " ").append(r);
            }
        }
        return out.toString();
    }

    private static void lives(Press p, boolean improved, String... want) {
        for (int i = 0; i < want.length; i++) {
            Press.dueText("live behind " + i + " of " + p.listing(improved), behind(p, improved, i), want[i]);
        }
        Press.due("instructions", p.x.told(improved ? 5 : 3), want.length);
    }

    private static Press lowered(String text) {
        Press p = Press.of(text);
        p.x.lower();
        return p;
    }

    private static void straight() {
        // COPY r1 r0; + r2 r1 1; COPY r0 r2; COPY r3 r0; PRINT r3; HALT
        lives(lowered("int a;a=a+1;print a;"), false, "1", "2", "0", "3", "", "");
        // READ r0; READ r0; COPY r1 r0; PRINT r1; HALT
        lives(lowered("int a;read a;read a;print a;"), false, "", "0", "1", "", "");
        // COPY r2 r0; COPY r3 r1; STORE of 0 r2 r3; LOAD r4 1 of 0; PRINT r4; HALT
        lives(lowered("int a,b;row r[2];r[a]=b;print r[1];"), false, "1 2", "2 3", "", "4", "", "");
        // SET r0 0; SET r0 3; HALT: a dead one
        lives(lowered("int a;a=1;a=3;"), false, "", "", "");
        lives(lowered(""), false, "");
    }

    private static void ways() {
        // READ r0; COPY r2 r0; ZERO 5 r2; SET r1 1; JUMP 5; COPY r3 r1; PRINT r3; HALT
        Press p = lowered("int a,b;read a;if(a)b=1;print b;");
        lives(p, false, "0 1", "1 2", "1", "1", "3", "", "");
        // COPY r1 r0; ZERO 6 r1; COPY r2 r0; - r3 r2 1; COPY r0 r3; JUMP 0; HALT
        lives(lowered("int a;while(a)a=a-1;"), false, "0 1", "0", "2", "3", "0", "0", "");
        // What can't be reached has ways of its own: PRINT r1 behind a JUMP to itself.
        // ZERO 2 1; JUMP 0; COPY r1 r0; PRINT r1; HALT
        lives(lowered("int a;while(1){}print a;"), false, "0", "0", "1", "", "");
        // ZERO with a constant goes both ways here.
        // SET r0 1; ZERO 4 1; COPY r1 r0; PRINT r1; HALT
        lives(lowered("int a;a=1;if(1)print a;"), false, "0", "0", "1", "", "");
    }

    private static void improvedOnes() {
        // SET r0 1; < r2 r0 4; ZERO 8 r2; * r5 r0 r0; PRINT r5; + r7 r0 1; COPY r0 r7; JUMP 1; HALT
        Press p = lowered("int a;a=1;while(a<4){print a*a;a=a+1;}");
        p.x.improve();
        lives(p, true, "0", "0 2", "0", "0 5", "0", "7", "0", "0", "");
        Press.due("told(6)", p.x.told(6), 2);
        int[] want = {0, -1, 1, -1, -1, 1, -1, 0};
        for (int r = 0; r < want.length; r++) {
            Press.due("colour(" + r + ")", p.x.colour(r), want[r]);
        }
    }

    private static void colours() {
        Press none = lowered("print 1;");
        none.x.improve();
        Press.due("no colours", none.x.told(6), 0);
        // READ r0; READ r1; READ r2; + ..: three at once, and the sum may take the colour of one.
        Press p = lowered("int a,b,c;read a;read b;read c;print a+b+c;print c;");
        p.x.improve();
        Press.dueText("its code", p.listing(true), "READ r0; READ r1; READ r2; + r5 r0 r1; + r7 r5 r2; PRINT r7; PRINT r2; HALT");
        int[] want = {0, 1, 2, -1, -1, 0, -1, 0, -1};
        for (int r = 0; r < want.length; r++) {
            Press.due("colour(" + r + ") of three", p.x.colour(r), want[r]);
        }
        Press.due("told(6) of three", p.x.told(6), 3);
        Press.dueText("it runs by colours", p.input(1, 2, 4).shown(3), "0: 7 4");
        // a is defined again while b lives.
        Press q = lowered("int a,b;read a;while(a<9){b=a;a=a+1;print b;}");
        q.x.improve();
        Press.dueText("its code", q.listing(true),
            "READ r0; < r3 r0 9; ZERO 8 r3; COPY r1 r0; + r6 r0 1; COPY r0 r6; PRINT r1; JUMP 1; HALT");
        Press.due("colour of a", q.x.colour(0), 0);
        Press.due("colour of b", q.x.colour(1), 1);
        Press.due("colour of the test", q.x.colour(3), 1);
        Press.due("colour of the sum", q.x.colour(6), 0);
        Press.due("told(6)", q.x.told(6), 2);
        // A register that is used and never defined is 0, and has a colour of its own beside what lives with it.
        Press r = lowered("int a,b;do{read a;print a+b;if(a)b=a;}while(1);");
        r.x.improve();
        Press.due("a and b are apart", r.x.colour(0) == r.x.colour(1) ? 1 : 0, 0);
        Press.dueText("it runs by colours", r.input(0, 3, 4).shown(3), "5: 0 3 7");
        shared();
    }

    private static void shared() {
        // Behind COPY r1 r0 both are live, but nothing else sets them apart.
        Press both = lowered("int a,b,c;read a;read c;if(c){b=a;print a;}else read b;print b;");
        both.x.improve();
        Press.dueText("its code", both.listing(true),
            "READ r0; READ r2; ZERO 6 r2; COPY r1 r0; PRINT r0; JUMP 7; READ r1; PRINT r1; HALT");
        Press.due("a is live behind the COPY", both.x.isLive(true, 3, 0) ? 1 : 0, 1);
        Press.due("b is live behind the COPY", both.x.isLive(true, 3, 1) ? 1 : 0, 1);
        Press.due("a", both.x.colour(0), 0);
        Press.due("b, the same", both.x.colour(1), 0);
        Press.due("c", both.x.colour(2), 1);
        Press.dueText("by colours", both.input(5, 1).shown(3), "0: 5 5");
        Press p = lowered("int a,b;read a;b=a;while(b<9){print b;b=b+a;}print a;");
        p.x.improve();
        Press.dueText("its code", p.listing(true),
            "READ r0; COPY r1 r0; < r4 r1 9; ZERO 8 r4; PRINT r1; + r8 r1 r0; COPY r1 r8; JUMP 2; PRINT r0; HALT");
        Press.due("a", p.x.colour(0), 0);
        Press.due("b is apart from a by its other definition", p.x.colour(1), 1);
        Press.due("the test", p.x.colour(4), 2);
        Press.due("the sum", p.x.colour(8), 1);
        Press.due("told(6)", p.x.told(6), 3);
        Press.dueText("it runs by colours", p.input(4).shown(3), "0: 4 8 4");
    }

    private static void wrongCalls() {
        Press p = Press.of("int a,b;read a;print a;");
        Press.dueThrow("isLive(false) before lower()", "IllegalStateException", () -> p.x.isLive(false, -1, -1) ? 1 : 0);
        Press.dueThrow("colour() before lower()", "IllegalStateException", () -> p.x.colour(-1));
        p.x.lower();
        Press.dueThrow("isLive(true) before improve()", "IllegalStateException", () -> p.x.isLive(true, -1, 99) ? 1 : 0);
        Press.dueThrow("colour() before improve()", "IllegalStateException", () -> p.x.colour(0));
        int[][] wrong = {{-1, 0}, {4, 0}, {0, -1}, {0, 3}, {Integer.MAX_VALUE, 0}, {0, Integer.MAX_VALUE}, {0, Integer.MIN_VALUE}};
        for (int[] w : wrong) {
            Press.dueThrow("isLive(false, " + w[0] + ", " + w[1] + ")", "IndexOutOfBoundsException", () -> p.x.isLive(false, w[0], w[1]) ? 1 : 0);
        }
        Press.due("improve()", p.x.improve(), 3);
        wrong[1][0] = 3;
        for (int[] w : wrong) {
            Press.dueThrow("isLive(true, " + w[0] + ", " + w[1] + ")", "IndexOutOfBoundsException", () -> p.x.isLive(true, w[0], w[1]) ? 1 : 0);
        }
        Press.due("isLive(true) of one that went", p.x.isLive(true, 0, 2) ? 1 : 0, 0);
        Press.due("isLive(true, 0, 0)", p.x.isLive(true, 0, 0) ? 1 : 0, 1);
        int[] registers = {-1, 3, 299, 300, Integer.MAX_VALUE, Integer.MIN_VALUE};
        for (int r : registers) {
            Press.dueThrow("colour(" + r + ")", "IndexOutOfBoundsException", () -> p.x.colour(r));
        }
        Press.due("colour(0)", p.x.colour(0), 0);
        Press.due("colour(1)", p.x.colour(1), -1);
        Press.due("colour(2)", p.x.colour(2), -1);
    }
}
