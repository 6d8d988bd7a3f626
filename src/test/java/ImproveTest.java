/** Promise 6: improve, each of its steps, and the rounds that told(7) counts. */
public final class ImproveTest {
    public static void main(String[] args) {
        constants();
        copies();
        common();
        dead();
        jumps();
        rings();
        rounds();
        states();
        Press.end("ImproveTest");
    }

    private static void becomes(String text, String listing) {
        Press p = Press.of(text);
        int lowered = p.x.lower();
        String before = p.listing(false);
        int count = p.x.improve();
        Press.dueText("improved code of " + text + "\n" + before, p.listing(true), listing);
        Press.due("told(5) of " + text, p.x.told(5), count);
        Press.due("instructions of " + text, count, listing.split(";").length);
        Press.due("told(3) of " + text, p.x.told(3), lowered);
        Press.dueText("the code of " + text + " stays", p.listing(false), before);
    }

    private static void constants() {
        becomes("", "HALT");
        becomes("print 1+2*3;", "PRINT 7; HALT");
        becomes("print -3;print !3;print ~3;", "PRINT -3; PRINT 0; PRINT -4; HALT");
        becomes("print 5-0;print 5/1;print 0%5;", "PRINT 5; PRINT 5; PRINT 0; HALT");
        becomes("int a;a=4;print a-1;", "PRINT 3; HALT");
        becomes("int a;print a;", "PRINT 0; HALT");
        becomes("int a;a=2;if(a)print 1;else print 2;", "PRINT 1; HALT");
        becomes("print 0&&1/0;print 1||1/0;", "PRINT 0; PRINT 1; HALT");
        becomes("def f(x,y){return x*y;}print f(6,7);", "PRINT 42; HALT");
        becomes("int a,b;read a;if(a)b=4;else b=4;print b;", "READ r0; PRINT 4; HALT");
        becomes("row r[4];int a;a=3;r[a]=a+1;print r[a-1];", "STORE of 0 3 4; LOAD r6 2 of 0; PRINT r6; HALT");
        becomes("int a;read a;a=5;print a;", "READ r0; PRINT 5; HALT");
        becomes("int a,b;a=1;while(b<9){if(a!=1)a=2;b=b+1;print a;}",
            "< r3 r1 9; ZERO 6 r3; + r7 r1 1; COPY r1 r7; PRINT 1; JUMP 0; HALT");
        // No result is known of what divides by 0: it stays, and its operands become constants.
        becomes("int a;a=1;print 5/(a-1);", "/ r3 5 0; PRINT r3; HALT");
        becomes("int a;a=1;a=5%(a-1);", "% r3 5 0; HALT");
    }

    private static void copies() {
        becomes("int a;read a;print a;", "READ r0; PRINT r0; HALT");
        becomes("int a,b;read a;b=a;print b;", "READ r0; PRINT r0; HALT");
        becomes("int a,b;read a;b=a;read a;print b+a;", "READ r0; COPY r1 r0; READ r0; + r5 r1 r0; PRINT r5; HALT");
        becomes("int a,b,c;read a;b=a;c=b;print c;", "READ r0; PRINT r0; HALT");
        becomes("int a;read a;a=a;print a;", "READ r0; PRINT r0; HALT");
        becomes("int a,b;read a;if(a)b=a;else b=a;print b;", "READ r0; PRINT r0; HALT");
        becomes("def f(x){return x;}int a;read a;print f(a)+f(a);", "READ r0; + r9 r0 r0; PRINT r9; HALT");
        becomes("row r[2];int a,b;read a;b=a;r[b]=b;", "READ r0; STORE of 0 r0 r0; HALT");
        // By one way b is a copy of a, by the other one it is 0.
        becomes("int a,b;read a;if(a)b=a;print b;", "READ r0; ZERO 3 r0; COPY r1 r0; PRINT r1; HALT");
    }

    private static void common() {
        becomes("int a,b;read a;read b;print a+b;print a+b;", "READ r0; READ r1; + r4 r0 r1; PRINT r4; PRINT r4; HALT");
        becomes("int a,b;read a;read b;print a+b;print b+a;",
            "READ r0; READ r1; + r4 r0 r1; PRINT r4; + r7 r1 r0; PRINT r7; HALT");
        becomes("int a,b;read a;read b;print a/b;print a/b;", "READ r0; READ r1; / r4 r0 r1; PRINT r4; PRINT r4; HALT");
        becomes("int a;read a;print -a;print ~a;print -a;", "READ r0; neg r2 r0; PRINT r2; turn r4 r0; PRINT r4; PRINT r2; HALT");
        becomes("int a;read a;print a+1;read a;print a+1;",
            "READ r0; + r2 r0 1; PRINT r2; READ r0; + r4 r0 1; PRINT r4; HALT");
        becomes("int a;read a;a=a+1;print a+1;", "READ r0; + r2 r0 1; + r4 r2 1; PRINT r4; HALT");
        // LOADs are no expressions that are held.
        becomes("row r[2];print r[1];print r[1];", "LOAD r0 1 of 0; PRINT r0; LOAD r1 1 of 0; PRINT r1; HALT");
        becomes("int a;read a;if(a)print a*3;else print a*3;print a*3;",
            "READ r0; ZERO 5 r0; * r3 r0 3; PRINT r3; JUMP 7; * r5 r0 3; PRINT r5; * r7 r0 3; PRINT r7; HALT");
        becomes("int a,b;read a;if(a)b=a*3;else b=a*3;print b;print a*3;",
            "READ r0; ZERO 5 r0; * r4 r0 3; COPY r1 r4; JUMP 7; * r6 r0 3; COPY r1 r6; PRINT r1; * r9 r0 3; PRINT r9; HALT");
        // The least register that holds it.
        becomes("int a,b;read a;b=a+1;print b;print a+1;", "READ r0; + r3 r0 1; PRINT r3; PRINT r3; HALT");
        becomes("print 1/0;print 1/0;", "/ r0 1 0; PRINT r0; PRINT r0; HALT");
    }

    private static void dead() {
        becomes("int a;read a;a=a+1;", "READ r0; HALT");
        becomes("int a,b;read a;b=a/2;b=a%3;", "READ r0; HALT");
        becomes("int a,b;read a;b=5/a;", "READ r0; / r3 5 r0; HALT");
        becomes("int a,b;read a;b=a%0;", "READ r0; % r3 r0 0; HALT");
        becomes("int a;row r[2];a=r[0];a=r[1];", "HALT");
        becomes("int a;row r[2];a=r[2];", "LOAD r1 2 of 0; HALT");
        becomes("int a;row r[2];a=r[-1];", "LOAD r2 -1 of 0; HALT");
        becomes("int a;row r[2];row q[3];a=q[2];a=r[2];", "LOAD r2 2 of 0; HALT");
        becomes("int a,b;row r[2];read a;b=r[a];", "READ r0; LOAD r3 r0 of 0; HALT");
        becomes("int a;read a;read a;", "READ r0; READ r0; HALT");
        becomes("def f(x){x=x+1;return 3;}int a;read a;f(a);print 1;", "READ r0; PRINT 1; HALT");
        // An int that is counted in a ring, and used for nothing else, lives by itself.
        becomes("int a,b;do{read a;b=b+1;}while(a);", "READ r0; + r3 r1 1; COPY r1 r3; MANY 0 r0; HALT");
    }

    private static void jumps() {
        becomes("int a;read a;if(a){}", "READ r0; HALT");
        becomes("int a;read a;if(a){}else{}", "READ r0; HALT");
        becomes("if(1)print 1;", "PRINT 1; HALT");
        becomes("if(0)print 1;", "HALT");
        becomes("do print 1;while(0);", "PRINT 1; HALT");
        becomes("do print 1;while(1);", "PRINT 1; JUMP 0");
        becomes("while(1)print 1;print 2;", "PRINT 1; JUMP 0");
        becomes("int a;read a;while(a)read a;", "READ r0; ZERO 4 r0; READ r0; JUMP 1; HALT");
        becomes("int a;while(1){read a;if(a)next;print a;}",
            "READ r0; ZERO 3 r0; JUMP 0; PRINT r0; JUMP 0");
        // A JUMP to a JUMP: the if within the if ends where the ring begins again.
        becomes("int a;read a;while(a){if(a<5){read a;}else{a=a-1;}}",
            "READ r0; ZERO 9 r0; < r3 r0 5; ZERO 6 r3; READ r0; JUMP 1; - r5 r0 1; COPY r0 r5; JUMP 1; HALT");
        becomes("def f(){return 1;}print f();print f();", "PRINT 1; PRINT 1; HALT");
        becomes("while(1)break;print 1;", "PRINT 1; HALT");
    }

    private static void rings() {
        becomes("while(1){}", "JUMP 0");
        becomes("while(1){while(1){}}", "JUMP 0");
        becomes("print 1;while(1){while(1)next;}print 2;", "PRINT 1; JUMP 1");
        becomes("do{do{}while(1);}while(1);", "JUMP 0");
        becomes("int a;read a;if(a)while(1){}print 3;", "READ r0; ZERO 3 r0; JUMP 2; PRINT 3; HALT");
        becomes("int a;read a;while(a){}", "READ r0; ZERO 3 r0; JUMP 1; HALT");
        becomes("int a;read a;do{}while(a);", "READ r0; MANY 1 r0; HALT");
        Press p = Press.of("while(1){}");
        p.x.lower();
        p.x.improve();
        Press.dueText("the ring runs", p.run(2, 77), "6: (0, 77)");
        Press.dueText("the ring runs by colours", p.run(3, 77), "6: (0, 77)");
    }

    private static void took(String text, int rounds) {
        Press p = Press.of(text);
        p.x.lower();
        p.x.improve();
        Press.due("rounds of " + text + "\n" + p.listing(false) + "\n" + p.listing(true), p.x.told(7), rounds);
    }

    private static void rounds() {
        took("", 1);
        took("print 1;", 1);
        took("int a;read a;", 1);
        took("int a;read a;print a;", 2);
        took("print 1+2;", 2);
        // The if's JUMP goes in the first round; only then is the ZERO's D the next one.
        took("int a;read a;if(a){}else{}", 3);
        took("while(1){}", 2);
        // Each COPY is looked through by one other COPY a round: five are two, then none, then nothing changes.
        took("int a,b,c;read a;b=a;c=b;print c;", 4);
    }

    private static void states() {
        Press p = new Press();
        Press.dueThrow("improve() at first", "IllegalStateException", () -> p.x.improve());
        p.read("print 1+1;");
        Press.dueThrow("improve() before lower()", "IllegalStateException", () -> p.x.improve());
        p.x.lower();
        Press.due("improve()", p.x.improve(), 2);
        Press.due("improve() again", p.x.improve(), 2);
        Press.due("its rounds", p.x.told(7), 2);
        Press.dueText("its code", p.listing(true), "PRINT 2; HALT");
        p.read("print 5;print 6-7;");
        Press.dueThrow("improve() of a new text", "IllegalStateException", () -> p.x.improve());
        p.x.lower();
        Press.due("improve() of the new code", p.x.improve(), 3);
        Press.dueText("the new code", p.listing(true), "PRINT 5; PRINT -1; HALT");
    }
}
