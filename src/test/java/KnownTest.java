/** Promises 8 and 9: isKnown and known. */
public final class KnownTest {
    public static void main(String[] args) {
        straight();
        branches();
        rings();
        divisions();
        wrongCalls();
        behindImprove();
        Press.end("KnownTest");
    }

    /** What is known before instruction i, one entry a register, - for not known. */
    private static String before(Press p, int i) {
        StringBuilder out = new StringBuilder();
        for (int r = 0; r < p.x.told(4); r++) {
            boolean is = p.x.isKnown(i, r);
            int number = p.x.known(i, r);
            out.append(r == 0 ? "" : " ").append(is ? "" + number : number == 0 ? "-" : "wrong");
        }
        return out.toString();
    }

    private static Press lowered(String text) {
        Press p = Press.of(text);
        p.x.lower();
        return p;
    }

    private static void knows(Press p, int i, String want) {
        Press.dueText("known before " + i + " of " + p.listing(false), before(p, i), want);
    }

    private static void straight() {
        // SET r0 5; COPY r2 r0; + r3 r2 1; COPY r1 r3; READ r0; COPY r4 r0; - r5 r4 1; PRINT r5; HALT
        Press p = lowered("int a,b;a=5;b=a+1;read a;print a-1;");
        knows(p, 0, "0 0 0 0 0 0");
        knows(p, 1, "5 0 0 0 0 0");
        knows(p, 2, "5 0 5 0 0 0");
        knows(p, 3, "5 0 5 6 0 0");
        knows(p, 4, "5 6 5 6 0 0");
        knows(p, 5, "- 6 5 6 0 0");
        knows(p, 6, "- 6 5 6 - 0");
        knows(p, 7, "- 6 5 6 - -");
        knows(p, 8, "- 6 5 6 - -");
        // LOAD r0 1 of 0; PRINT r0; HALT
        Press q = lowered("row r[2];print r[1];");
        knows(q, 0, "0");
        knows(q, 1, "-");
        Press r = lowered("int a;a=-2147483647-1;a=-a;a=a/-1;print ~a;");
        knows(r, 13, "-2147483648 -2147483647 -2147483648 -2147483648 -2147483648 -2147483648 -1 -2147483648"
            + " -2147483648 2147483647");
    }

    private static void branches() {
        // READ r0; COPY r2 r0; ZERO 5 r2; SET r1 4; JUMP 6; SET r1 4; COPY r3 r1; PRINT r3; HALT
        Press same = lowered("int a,b;read a;if(a)b=4;else b=4;print b;");
        knows(same, 3, "- 0 - 0");
        knows(same, 5, "- 0 - 0");
        knows(same, 6, "- 4 - 0");
        knows(same, 7, "- 4 - 4");
        Press other = lowered("int a,b;read a;if(a)b=4;else b=5;print b;");
        knows(other, 6, "- - - 0");
        // SET r0 1; COPY r2 r0; ZERO 5 r2; SET r1 4; JUMP 6; SET r1 5; COPY r3 r1; PRINT r3; HALT
        Press one = lowered("int a,b;a=1;if(a)b=4;else b=5;print b;");
        knows(one, 4, "1 4 1 0");
        knows(one, 5, "- - - -");
        knows(one, 6, "1 4 1 0");
        Press none = lowered("int a,b;if(a)b=4;else b=5;print b;");
        knows(none, 2, "- - - -");
        knows(none, 3, "- - - -");
        knows(none, 5, "0 5 0 0");
        // SET r0 1; MANY 3 1; != r0 2 0; PRINT r0; HALT
        Press or = lowered("print 1||2;");
        knows(or, 2, "-");
        knows(or, 3, "1");
        Press and = lowered("print 0&&2;");
        knows(and, 2, "-");
        knows(and, 3, "0");
    }

    private static void rings() {
        // SET r0 3; COPY r2 r1; < r3 r2 9; ZERO 10 r3; COPY r4 r1; + r5 r4 1; COPY r1 r5; COPY r6 r0; COPY r0 r6; JUMP 1; HALT
        Press p = lowered("int a,b;a=3;while(b<9){b=b+1;a=a;}");
        knows(p, 1, "3 - - - - - -");
        knows(p, 10, "3 - - - - - -");
        knows(p, 9, "3 - - - - - 3");
        // An optimist finds that the branch that would change a is never come to.
        Press q = lowered("int a,b;a=1;while(b<9){if(a!=1)a=2;b=b+1;}print a;");
        int last = q.x.told(3) - 1;
        Press.due("a is known behind the ring", q.x.isKnown(last, 0) ? 1 : 0, 1);
        Press.due("a behind the ring", q.x.known(last, 0), 1);
        Press.due("b is not known", q.x.isKnown(last, 1) ? 1 : 0, 0);
        // ZERO 2 1; JUMP 0; HALT
        Press r = lowered("int a;while(1){}");
        knows(r, 1, "0");
        knows(r, 2, "-");
        Press s = lowered("int a;do{a=5;}while(a==5);print a;");
        knows(s, s.x.told(3) - 1, "- - - -");
    }

    private static void divisions() {
        // / r1 1 r2: the way goes on behind it, and its result is not known.
        Press p = lowered("int a;print 7/a;print 8%0;print 9;");
        knows(p, 1, "0 0 0 0");
        knows(p, 2, "0 0 - 0");
        knows(p, 4, "0 0 - -");
        knows(p, 6, "0 0 - -");
        Press q = lowered("print 7/2;print 7%2;");
        knows(q, 4, "3 1");
    }

    private static void wrongCalls() {
        Press p = Press.of("int a,b;a=1;");
        Press.dueThrow("isKnown() before lower()", "IllegalStateException", () -> p.x.isKnown(-1, -1) ? 1 : 0);
        Press.dueThrow("known() before lower()", "IllegalStateException", () -> p.x.known(-1, -1));
        p.x.lower();
        int[][] wrong = {{-1, 0}, {2, 0}, {0, -1}, {0, 2}, {Integer.MAX_VALUE, 0}, {0, Integer.MIN_VALUE}, {0, 299}, {399, 0}};
        for (int[] w : wrong) {
            Press.dueThrow("isKnown(" + w[0] + ", " + w[1] + ")", "IndexOutOfBoundsException", () -> p.x.isKnown(w[0], w[1]) ? 1 : 0);
            Press.dueThrow("known(" + w[0] + ", " + w[1] + ")", "IndexOutOfBoundsException", () -> p.x.known(w[0], w[1]));
        }
        Press.due("known(1, 0)", p.x.known(1, 0), 1);
        Press.due("known(1, 1)", p.x.known(1, 1), 0);
    }

    private static void behindImprove() {
        Press p = lowered("int a,b;a=5;b=a+1;read a;print a-1;");
        p.x.improve();
        knows(p, 4, "5 6 5 6 0 0");
        knows(p, 8, "- 6 5 6 - -");
        Press q = lowered("int a,b;read a;if(a)b=4;else b=5;print b+1;while(1)b=b+1;");
        q.x.improve();
        Press.due("known behind improve()", q.x.known(4, 1), 4);
        knows(q, 6, "- - - 0 0 0 0");
        Press.due("improve() again", q.x.improve(), q.x.told(5));
        knows(q, 5, "- 0 - 0 0 0 0");
        p.read("int c; c=9;");
        Press.dueThrow("known() of a new text", "IllegalStateException", () -> p.x.known(0, 0));
        p.x.lower();
        knows(p, 1, "9");
        p.read("int c; c=8;");
        p.x.lower();
        knows(p, 1, "8");
    }
}
