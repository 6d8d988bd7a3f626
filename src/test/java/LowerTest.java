/** Promises 5 and 7: lower and code, with the lowering of each kind of statement and expr. */
public final class LowerTest {
    public static void main(String[] args) {
        exprs();
        strengths();
        statements();
        loops();
        defs();
        tooMuch();
        states();
        fields();
        Press.end("LowerTest");
    }

    private static void lowers(String text, int registers, String listing) {
        Press p = Press.of(text);
        int count = p.x.lower();
        Press.dueText("code of " + text, p.listing(false), listing);
        Press.due("instructions of " + text, count, listing.split(";").length);
        Press.due("told(3) of " + text, p.x.told(3), count);
        Press.due("registers of " + text, p.x.told(4), registers);
    }

    private static void exprs() {
        lowers("", 0, "HALT");
        lowers("print 7;", 0, "PRINT 7; HALT");
        lowers("int a,b;print b;", 3, "COPY r2 r1; PRINT r2; HALT");
        lowers("row q[1];row r[5];print r[3];", 1, "LOAD r0 3 of 1; PRINT r0; HALT");
        lowers("int a;row r[5];print r[a];", 3, "COPY r1 r0; LOAD r2 r1 of 0; PRINT r2; HALT");
        lowers("print -1;print !2;print ~3;", 3,
            "neg r0 1; PRINT r0; not r1 2; PRINT r1; turn r2 3; PRINT r2; HALT");
        lowers("int a;print -a;", 3, "COPY r1 r0; neg r2 r1; PRINT r2; HALT");
        String[] ops = {"+", "-", "*", "/", "%", "&", "|", "^", "<<", ">>", "==", "!=", "<", "<=", ">", ">="};
        for (String op : ops) {
            lowers("print 1" + op + "2;", 1, op + " r0 1 2; PRINT r0; HALT");
            lowers("int a;print a" + op + "2;", 3, "COPY r1 r0; " + op + " r2 r1 2; PRINT r2; HALT");
            lowers("int a;print 1" + op + "a;", 3, "COPY r1 r0; " + op + " r2 1 r1; PRINT r2; HALT");
        }
        lowers("int a;print a+a*a;", 6,
            "COPY r1 r0; COPY r2 r0; COPY r3 r0; * r4 r2 r3; + r5 r1 r4; PRINT r5; HALT");
        lowers("print (1-2)-(3-4);", 3, "- r0 1 2; - r1 3 4; - r2 r0 r1; PRINT r2; HALT");
        lowers("print 1&&2;", 1, "SET r0 0; ZERO 3 1; != r0 2 0; PRINT r0; HALT");
        lowers("print 1||2;", 1, "SET r0 1; MANY 3 1; != r0 2 0; PRINT r0; HALT");
        lowers("int a;print a&&a;", 4,
            "SET r1 0; COPY r2 r0; ZERO 5 r2; COPY r3 r0; != r1 r3 0; PRINT r1; HALT");
        // The outer one takes its register first, and only then comes its left side.
        lowers("print 1&&2&&3;", 2,
            "SET r0 0; SET r1 0; ZERO 4 1; != r1 2 0; ZERO 6 r1; != r0 3 0; PRINT r0; HALT");
        lowers("print 1&&2||3;", 2,
            "SET r0 1; SET r1 0; ZERO 4 1; != r1 2 0; MANY 6 r1; != r0 3 0; PRINT r0; HALT");
        lowers("print 1||2&&3;", 2,
            "SET r0 1; MANY 6 1; SET r1 0; ZERO 5 2; != r1 3 0; != r0 r1 0; PRINT r0; HALT");
        lowers("print 1&&(2||3);", 2,
            "SET r0 0; ZERO 6 1; SET r1 1; MANY 5 2; != r1 3 0; != r0 r1 0; PRINT r0; HALT");
        lowers("print (1||2)+3&&4;", 3,
            "SET r0 0; SET r1 1; MANY 4 1; != r1 2 0; + r2 r1 3; ZERO 7 r2; != r0 4 0; PRINT r0; HALT");
        lowers("print 5+(1&&2);", 2, "SET r0 0; ZERO 3 1; != r0 2 0; + r1 5 r0; PRINT r1; HALT");
        lowers("print !(1&&2);", 2, "SET r0 0; ZERO 3 1; != r0 2 0; not r1 r0; PRINT r1; HALT");
        lowers("row r[9];r[1&&2]=3||4;", 2,
            "SET r0 0; ZERO 3 1; != r0 2 0; SET r1 1; MANY 6 3; != r1 4 0; STORE of 0 r0 r1; HALT");
    }

    /** By strength, the weakest first; each from the left to the right. */
    private static void strengths() {
        String[][] levels = {{"|"}, {"^"}, {"&"}, {"==", "!="}, {"<", "<=", ">", ">="}, {"<<", ">>"}, {"+", "-"}, {"*", "/", "%"}};
        for (int i = 0; i < levels.length; i++) {
            for (int j = 0; j < levels.length; j++) {
                for (String one : levels[i]) {
                    for (String two : levels[j]) {
                        String leftFirst = one + " r0 1 2; " + two + " r1 r0 3; PRINT r1; HALT";
                        String rightFirst = two + " r0 2 3; " + one + " r1 1 r0; PRINT r1; HALT";
                        lowers("print 1" + one + "2" + two + "3;", 2, i >= j ? leftFirst : rightFirst);
                    }
                }
            }
            for (String op : levels[i]) {
                withTests(op);
                withSignsBefore(op);
            }
        }
        lowers("print 1||2&&3;", 2, "SET r0 1; MANY 6 1; SET r1 0; ZERO 5 2; != r1 3 0; != r0 r1 0; PRINT r0; HALT");
        lowers("print 1&&2||3;", 2, "SET r0 1; SET r1 0; ZERO 4 1; != r1 2 0; MANY 6 r1; != r0 3 0; PRINT r0; HALT");
        lowers("print 1||2||3;", 2, "SET r0 1; SET r1 1; MANY 4 1; != r1 2 0; MANY 6 r1; != r0 3 0; PRINT r0; HALT");
        lowers("print -!~1;", 3, "turn r0 1; not r1 r0; neg r2 r1; PRINT r2; HALT");
        lowers("print !-1&&~2;", 4,
            "SET r0 0; neg r1 1; not r2 r1; ZERO 6 r2; turn r3 2; != r0 r3 0; PRINT r0; HALT");
    }

    /** && and || are weaker than all others. */
    private static void withTests(String op) {
        lowers("print 1&&2" + op + "3;", 2, "SET r0 0; ZERO 4 1; " + op + " r1 2 3; != r0 r1 0; PRINT r0; HALT");
        lowers("print 1" + op + "2&&3;", 2, "SET r0 0; " + op + " r1 1 2; ZERO 4 r1; != r0 3 0; PRINT r0; HALT");
        lowers("print 1||2" + op + "3;", 2, "SET r0 1; MANY 4 1; " + op + " r1 2 3; != r0 r1 0; PRINT r0; HALT");
        lowers("print 1" + op + "2||3;", 2, "SET r0 1; " + op + " r1 1 2; MANY 4 r1; != r0 3 0; PRINT r0; HALT");
    }

    /** - ! ~ before are stronger than all others. */
    private static void withSignsBefore(String op) {
        String[] signs = {"-", "!", "~"};
        String[] ops = {"neg", "not", "turn"};
        for (int k = 0; k < 3; k++) {
            lowers("print " + signs[k] + "1" + op + "2;", 2, ops[k] + " r0 1; " + op + " r1 r0 2; PRINT r1; HALT");
            lowers("print 1" + op + signs[k] + "2;", 2, ops[k] + " r0 2; " + op + " r1 1 r0; PRINT r1; HALT");
        }
    }

    private static void statements() {
        lowers("int a;a=5;", 1, "SET r0 5; HALT");
        lowers("int a,b;a=b;", 3, "COPY r2 r1; COPY r0 r2; HALT");
        lowers("int a;a=a+1;", 3, "COPY r1 r0; + r2 r1 1; COPY r0 r2; HALT");
        lowers("row q[1];row r[5];r[1]=2;", 0, "STORE of 1 1 2; HALT");
        lowers("int a;row r[5];r[a]=a;", 3, "COPY r1 r0; COPY r2 r0; STORE of 0 r1 r2; HALT");
        lowers("int a,b;read b;", 2, "READ r1; HALT");
        lowers("print 1;int a,b;b=2;", 2, "PRINT 1; SET r0 0; SET r1 0; SET r1 2; HALT");
        lowers("int a;{int a;a=1;}a=2;", 2, "SET r1 0; SET r1 1; SET r0 2; HALT");
        lowers("if(1)print 2;", 0, "ZERO 2 1; PRINT 2; HALT");
        lowers("if(1)print 2;else print 3;", 0, "ZERO 3 1; PRINT 2; JUMP 4; PRINT 3; HALT");
        lowers("if(1){}else{}", 0, "ZERO 2 1; JUMP 2; HALT");
        lowers("if(1)if(2)print 3;else print 4;", 0, "ZERO 5 1; ZERO 4 2; PRINT 3; JUMP 5; PRINT 4; HALT");
    }

    private static void loops() {
        lowers("while(1)print 2;", 0, "ZERO 3 1; PRINT 2; JUMP 0; HALT");
        lowers("while(1){}", 0, "ZERO 2 1; JUMP 0; HALT");
        lowers("while(1){next;break;}", 0, "ZERO 4 1; JUMP 0; JUMP 4; JUMP 0; HALT");
        lowers("int a;while(a){print a;}", 3, "COPY r1 r0; ZERO 5 r1; COPY r2 r0; PRINT r2; JUMP 0; HALT");
        lowers("while(1&&2){}", 1, "SET r0 0; ZERO 3 1; != r0 2 0; ZERO 5 r0; JUMP 0; HALT");
        lowers("do print 1;while(2);", 0, "PRINT 1; MANY 0 2; HALT");
        lowers("do{}while(2);", 0, "MANY 0 2; HALT");
        lowers("int a;do{next;break;}while(a);", 2, "JUMP 2; JUMP 4; COPY r1 r0; MANY 0 r1; HALT");
        lowers("while(1){while(2)break;next;}", 0,
            "ZERO 6 1; ZERO 4 2; JUMP 4; JUMP 1; JUMP 0; JUMP 0; HALT");
        lowers("while(1)do{break;}while(0);", 0, "ZERO 4 1; JUMP 3; MANY 1 0; JUMP 0; HALT");
    }

    private static void defs() {
        lowers("def f(){}f();", 1, "SET r0 0; HALT");
        lowers("def f(){}print f();", 1, "SET r0 0; PRINT r0; HALT");
        lowers("def f(x){return x;}print f(4);", 3,
            "SET r0 4; SET r1 0; COPY r2 r0; COPY r1 r2; JUMP 5; PRINT r1; HALT");
        lowers("def f(){return 3;}print f();", 1, "SET r0 0; SET r0 3; JUMP 3; PRINT r0; HALT");
        lowers("int a;def f(x,y){}f(a,2);", 5, "COPY r1 r0; COPY r2 r1; SET r3 2; SET r4 0; HALT");
        lowers("int a;def f(x,y){}f(a+1,a);", 7,
            "COPY r1 r0; + r2 r1 1; COPY r3 r0; COPY r4 r2; COPY r5 r3; SET r6 0; HALT");
        lowers("def f(x){int y;y=x;}f(1);f(2);", 8,
            "SET r0 1; SET r1 0; SET r2 0; COPY r3 r0; COPY r2 r3;"
            + " SET r4 2; SET r5 0; SET r6 0; COPY r7 r4; COPY r6 r7; HALT");
        lowers("def f(x){if(x)return 1;return 2;}print f(3);", 3,
            "SET r0 3; SET r1 0; COPY r2 r0; ZERO 6 r2; SET r1 1; JUMP 8; SET r1 2; JUMP 8; PRINT r1; HALT");
        lowers("def f(x){return x;}def g(){return f(1);}print g()+g();", 9,
            "SET r0 0; SET r1 1; SET r2 0; COPY r3 r1; COPY r2 r3; JUMP 6; COPY r0 r2; JUMP 8;"
            + " SET r4 0; SET r5 1; SET r6 0; COPY r7 r5; COPY r6 r7; JUMP 14; COPY r4 r6; JUMP 16;"
            + " + r8 r0 r4; PRINT r8; HALT");
        lowers("def f(){while(1)return 2;}f();", 1, "SET r0 0; ZERO 5 1; SET r0 2; JUMP 5; JUMP 1; HALT");
        lowers("def f(){return 1&&2;}print f()&&3;", 3,
            "SET r0 0; SET r1 0; SET r2 0; ZERO 5 1; != r2 2 0; COPY r1 r2; JUMP 7; ZERO 9 r1; != r0 3 0; PRINT r0; HALT");
        // Each expr of a list begins anew.
        lowers("int a;def f(x,y){}f(a,a&&2);", 7,
            "COPY r1 r0; SET r2 0; COPY r3 r0; ZERO 5 r3; != r2 2 0; COPY r4 r1; COPY r5 r2; SET r6 0; HALT");
        lowers("int a;def f(x,y,z){}print f(1||a,a,3&&a);", 10,
            "SET r1 1; MANY 4 1; COPY r2 r0; != r1 r2 0; COPY r3 r0; SET r4 0; ZERO 9 3; COPY r5 r0; != r4 r5 0;"
            + " COPY r6 r1; COPY r7 r3; COPY r8 r4; SET r9 0; PRINT r9; HALT");
        lowers("int a;def f(){a=1;}int b;f();b=2;", 3, "SET r2 0; SET r0 1; SET r1 2; HALT");
    }

    private static void tooMuch() {
        Press most = Press.of("print 1;".repeat(373));
        Press.due("374 instructions", most.x.lower(), 374);
        Press p = Press.of("int a;" + "a=1;".repeat(399));
        Press.due("400 instructions", p.x.lower(), 400);
        Press.due("told(3)", p.x.told(3), 400);
        Press.due("improve() of 400", p.x.improve(), 1);
        p.read("int a;" + "a=1;".repeat(400));
        Press.due("401 instructions", p.x.lower(), WhilePress.TOO_MUCH);
        for (int what = 3; what <= 7; what++) {
            Press.due("told(" + what + ") of too much", p.x.told(what), 0);
        }
        Press.dueThrow("code() of too much", "IllegalStateException", () -> p.x.code(false, 0, 0));
        Press.dueThrow("improve() of too much", "IllegalStateException", () -> p.x.improve());
        Press.dueThrow("run(1) of too much", "IllegalStateException", () -> p.x.run(1, 5));
        Press.dueText("the text runs", p.run(0, 1000), "0: (0, 400)");
        Press.due("too much again", p.x.lower(), WhilePress.TOO_MUCH);

        Press q = Press.of(ints(300));
        Press.due("300 registers", q.x.lower(), 1);
        Press.due("told(4)", q.x.told(4), 300);
        Press.due("improve()", q.x.improve(), 1);
        Press.due("colour(299)", q.x.colour(299), -1);
        Press.due("301 registers", Press.of(ints(301)).x.lower(), WhilePress.TOO_MUCH);
        Press.due("300 with a new one", Press.of(ints(299) + "print n0;").x.lower(), 3);
        Press.due("301 with a new one", Press.of(ints(300) + "print n0;").x.lower(), WhilePress.TOO_MUCH);
        Press.due("700 registers", Press.of(ints(700)).x.lower(), WhilePress.TOO_MUCH);

        StringBuilder doubled = new StringBuilder("def f0(){}");
        for (int k = 1; k < 15; k++) {
            doubled.append("def f" + k + "(){f" + (k - 1) + "();f" + (k - 1) + "();}");
        }
        Press.due("127 calls", Press.of(doubled + "f6();").x.lower(), 128);
        Press.due("32767 calls", Press.of(doubled + "f14();").x.lower(), WhilePress.TOO_MUCH);
    }

    private static String ints(int n) {
        StringBuilder text = new StringBuilder("int n0");
        for (int k = 1; k < n; k++) {
            text.append(",n").append(Integer.toString(k, 36));
        }
        return text + ";";
    }

    private static void states() {
        Press p = Press.of("print 1+2;");
        Press.dueThrow("code() before lower()", "IllegalStateException", () -> p.x.code(false, 0, 0));
        Press.due("lower()", p.x.lower(), 3);
        Press.dueThrow("code(true) before improve()", "IllegalStateException", () -> p.x.code(true, 0, 0));
        Press.due("improve()", p.x.improve(), 2);
        Press.due("the code stays", p.x.code(false, 0, 0), 2);
        Press.due("lower() again", p.x.lower(), 3);
        Press.due("told(5) is gone", p.x.told(5), 0);
        Press.due("told(6) is gone", p.x.told(6), 0);
        Press.due("told(7) is gone", p.x.told(7), 0);
        Press.dueThrow("code(true) is gone", "IllegalStateException", () -> p.x.code(true, 0, 0));
        Press.dueThrow("run(2) is gone", "IllegalStateException", () -> p.x.run(2, 5));
        Press.dueThrow("colour() is gone", "IllegalStateException", () -> p.x.colour(0));
    }

    private static void fields() {
        Press p = Press.of("int a;row q[1];row r[4];r[a]=2;r[1]=a;print r[a];read a;if(a)print 5;");
        p.x.lower();
        Press.dueText("the listing", p.listing(false), "COPY r1 r0; STORE of 1 r1 2; COPY r2 r0; STORE of 1 1 r2;"
            + " COPY r3 r0; LOAD r4 r3 of 1; PRINT r4; READ r0; COPY r5 r0; ZERO 11 r5; PRINT 5; HALT");
        int[][] want = {{1, 1, 0, 0, 0}, {22, 1, 1, 2, 2}, {1, 2, 0, 0, 0}, {22, 1, 1, 2, 1}, {1, 3, 0, 0, 0},
            {21, 4, 3, 1, 0}, {24, 0, 4, 0, 0}, {23, 0, 0, 0, 0}, {1, 5, 0, 0, 0}, {26, 11, 5, 0, 0}, {24, 0, 5, 0, 1},
            {28, 0, 0, 0, 0}};
        for (int i = 0; i < want.length; i++) {
            for (int what = 0; what < 5; what++) {
                Press.due("code(false, " + i + ", " + what + ")", p.x.code(false, i, what), want[i][what]);
            }
        }
        int[][] wrong = {{-1, 0}, {12, 0}, {0, -1}, {0, 5}, {Integer.MIN_VALUE, 0}, {Integer.MAX_VALUE, 4}, {3, Integer.MIN_VALUE}};
        for (int[] w : wrong) {
            Press.dueThrow("code(false, " + w[0] + ", " + w[1] + ")", "IndexOutOfBoundsException", () -> p.x.code(false, w[0], w[1]));
            Press.dueThrow("code(true, " + w[0] + ", " + w[1] + ")", "IllegalStateException", () -> p.x.code(true, w[0], w[1]));
        }
        int n = p.x.improve();
        Press.dueThrow("code(true, " + n + ", 0)", "IndexOutOfBoundsException", () -> p.x.code(true, n, 0));
        Press.due("the last improved one", p.x.code(true, n - 1, 0), 28);
    }
}
