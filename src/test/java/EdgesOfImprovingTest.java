/**
 * The edges of "4 IMPROVING" and of promise 6, sentence by sentence, each on both of its sides: what becomes a
 * constant or a copy, what is left out and what stays, and where jumps go.
 */
public final class EdgesOfImprovingTest {
    private static final int LEAST = Integer.MIN_VALUE;
    private static final int MOST = Integer.MAX_VALUE;

    public static void main(String[] args) {
        resultsThatComeRound();
        dividedByConstants();
        waysThatAreGone();
        ringsOfKnowledge();
        untilItIsDefinedAgain();
        byAllWays();
        loadsAndReadsAreNotHeld();
        deadDivisions();
        deadLoads();
        whatIsNeverDead();
        allAtOnce();
        testsOfConstants();
        jumpsToJumps();
        ringsOfJumps();
        jumpsToTheNext();
        notReached();
        roundsThatChangeNothing();
        roundsOfOperandsAlone();
        theLeastThatHolds();
        theTwoOfACopy();
        allColoursAreZeroAtFirst();
        lowerAndImproveAgain();
        Press.end("EdgesOfImprovingTest");
    }

    private static void becomes(String text, String listing) {
        Press p = Press.improved(text);
        Press.dueText("improved code of " + text + "\n" + p.listing(false), p.listing(true), listing);
        Press.due("how many of " + text, p.x.told(5), listing.split(";").length);
    }

    private static void becomes(String text, int rounds, String listing) {
        becomes(text, listing);
        Press.due("rounds of " + text, Press.improved(text).x.told(7), rounds);
    }

    /** Behind 2 to 20 with known operands the result. */
    private static void resultsThatComeRound() {
        becomes("print 2147483647+1;", "PRINT -2147483648; HALT");
        becomes("print -2147483647-2;", "PRINT 2147483647; HALT");
        becomes("print 65536*65536;print 46341*46341;", "PRINT 0; PRINT -2147479015; HALT");
        becomes("print -(-2147483647-1);", "PRINT -2147483648; HALT");
        becomes("print ~2147483647;print !0;print !-1;", "PRINT -2147483648; PRINT 1; PRINT 0; HALT");
        becomes("print 1<<31;print 1<<32;print 1<<-1;", "PRINT -2147483648; PRINT 1; PRINT -2147483648; HALT");
        becomes("print -1>>31;print -1>>32;print -8>>1;", "PRINT -1; PRINT -1; PRINT -4; HALT");
        becomes("print -7/2;print -7%2;print 7/-2;print 7%-2;", "PRINT -3; PRINT -1; PRINT -3; PRINT 1; HALT");
        becomes("print (-2147483647-1)/-1;print (-2147483647-1)%-1;", "PRINT -2147483648; PRINT 0; HALT");
        becomes("print -2147483647-1<2147483647;print -2147483647-1>2147483647;", "PRINT 1; PRINT 0; HALT");
        becomes("print 2<2;print 2<=2;print 2>2;print 2>=2;print 2==2;print 2!=2;",
            "PRINT 0; PRINT 1; PRINT 0; PRINT 1; PRINT 1; PRINT 0; HALT");
        becomes("print 12&10;print 12|10;print 12^10;", "PRINT 8; PRINT 14; PRINT 6; HALT");
        // What becomes SET stays one where another way brings another number.
        becomes("int a,b,c;read c;a=3;if(c)b=a;else b=4;print b;", "READ r2; ZERO 4 r2; SET r1 3; JUMP 5; SET r1 4; PRINT r1; HALT");
        becomes("int a,b,c;read c;a=3;if(c)b=a*2;else b=4;print b;", "READ r2; ZERO 4 r2; SET r1 6; JUMP 5; SET r1 4; PRINT r1; HALT");
        becomes("int a;read a;print a&&3;", "READ r0; SET r1 0; ZERO 4 r0; SET r1 1; PRINT r1; HALT");
        becomes("int a;read a;print a&&0;", "READ r0; PRINT 0; HALT");
        becomes("int a;read a;print a||0;", "READ r0; SET r1 1; MANY 4 r0; SET r1 0; PRINT r1; HALT");
        becomes("int a;read a;print a||3;", "READ r0; PRINT 1; HALT");
        becomes("int a;read a;print a&&a;", "READ r0; SET r1 0; ZERO 4 r0; != r1 r0 0; PRINT r1; HALT");
        // With one operand that is not known nothing is known, whatever the other is.
        becomes("int a;read a;print a*0;", "READ r0; * r2 r0 0; PRINT r2; HALT");
        becomes("int a;read a;print a-a;", "READ r0; - r3 r0 r0; PRINT r3; HALT");
        becomes("int a;read a;print 0&&a;print 1||a;", "READ r0; PRINT 0; PRINT 1; HALT");
    }

    /** (but / % by 0). */
    private static void dividedByConstants() {
        becomes("print 6/0;", "/ r0 6 0; PRINT r0; HALT");
        becomes("print 6%0;", "% r0 6 0; PRINT r0; HALT");
        becomes("print 6/1;print 6/-1;print 6%1;print 6%-1;", "PRINT 6; PRINT -6; PRINT 0; PRINT 0; HALT");
        becomes("print 0/0;print 0/6;", "/ r0 0 0; PRINT r0; PRINT 0; HALT");
        becomes("int a;print 6/a;print 6/(a+1);", "/ r2 6 0; PRINT r2; PRINT 6; HALT");
        becomes("int a;read a;print a/0;print a%0;", "READ r0; / r2 r0 0; PRINT r2; % r4 r0 0; PRINT r4; HALT");
        becomes("int a;read a;print a/1;print a%-1;", "READ r0; / r2 r0 1; PRINT r2; % r5 r0 -1; PRINT r5; HALT");
        // The way goes on behind it, and what is not known there stays so.
        becomes("int a;a=6/0;print a+1;print 2+1;", "/ r1 6 0; + r3 r1 1; PRINT r3; PRINT 3; HALT");
    }

    /** Ways that are really gone alone: by a ZERO, MANY whose operand is known the one way that it goes. */
    private static void waysThatAreGone() {
        int[] truths = {1, -1, MOST, LEAST};
        for (int v : truths) {
            String a = "int a,b;a=" + Press.number(v) + ";";
            becomes(a + "if(a)b=1;else b=2;print b;", "PRINT 1; HALT");
            becomes(a + "if(!a)b=1;else b=2;print b;", "PRINT 2; HALT");
            becomes(a + "b=a||b;print b;", "PRINT 1; HALT");
            becomes(a + "do b=b+1;while(!a);print b;", "PRINT 1; HALT");
        }
        becomes("int a,b;a=0;if(a)b=1;else b=2;print b;", "PRINT 2; HALT");
        becomes("int a,b;if(a&&1)b=1;print b;", "PRINT 0; HALT");
        becomes("int a,b;do b=b+1;while(a);print b;", "PRINT 1; HALT");
        becomes("int a,b;while(a)b=b+1;print b;", "PRINT 0; HALT");
        // Two ways with the same number, and with two numbers.
        becomes("int a,b;read a;if(a)b=3;else b=3;print b;", "READ r0; PRINT 3; HALT");
        becomes("int a,b;read a;if(a)b=3;else b=4;print b;", "READ r0; ZERO 4 r0; SET r1 3; JUMP 5; SET r1 4; PRINT r1; HALT");
        becomes("int a,b;read a;if(a)b=0;print b;", "READ r0; PRINT 0; HALT");
        becomes("int a,b;read a;if(a)b=1;print b;", "READ r0; ZERO 3 r0; SET r1 1; PRINT r1; HALT");
    }

    /** Where instructions follow in a ring, as much is known as can be without contradiction. */
    private static void ringsOfKnowledge() {
        becomes("int a,b;read b;a=2;while(b){a=a;b=b-1;}print a;",
            "READ r1; ZERO 5 r1; - r5 r1 1; COPY r1 r5; JUMP 1; PRINT 2; HALT");
        becomes("int a,b;read b;a=2;while(b){a=a*a-2;b=b-1;}print a;",
            "READ r1; ZERO 5 r1; - r8 r1 1; COPY r1 r8; JUMP 1; PRINT 2; HALT");
        becomes("int a,b;read b;a=2;while(b){if(a!=2)a=3;b=b-1;}print a;",
            "READ r1; ZERO 5 r1; - r6 r1 1; COPY r1 r6; JUMP 1; PRINT 2; HALT");
        becomes("int a,b;read b;a=2;while(b){a=a+1;b=b-1;}print a;",
            "READ r1; SET r0 2; ZERO 8 r1; + r4 r0 1; COPY r0 r4; - r6 r1 1; COPY r1 r6; JUMP 2; PRINT r0; HALT");
        // Instruction 0 is come to from before it, where all registers are 0, and by the ring.
        becomes("int a;do{print a;a=1;}while(1);", "PRINT r0; SET r0 1; JUMP 0");
        becomes("int a;do{print a;a=0;}while(1);", "PRINT 0; JUMP 0");
    }

    /** And behind that none defined E or a register of the expression. */
    private static void untilItIsDefinedAgain() {
        becomes("int a,b;read a;b=a;print b;", "READ r0; PRINT r0; HALT");
        becomes("int a,b;read a;b=a;read a;print b;", "READ r0; COPY r1 r0; READ r0; PRINT r1; HALT");
        becomes("int a,b;read a;b=a;read b;print a;", "READ r0; READ r1; PRINT r0; HALT");
        becomes("int a,b;read a;read b;print a*b;print a*b;", "READ r0; READ r1; * r4 r0 r1; PRINT r4; PRINT r4; HALT");
        becomes("int a,b;read a;read b;print a*b;read b;print a*b;",
            "READ r0; READ r1; * r4 r0 r1; PRINT r4; READ r1; * r7 r0 r1; PRINT r7; HALT");
        becomes("int a,b;read a;read b;print a*b;read a;print a*b;",
            "READ r0; READ r1; * r4 r0 r1; PRINT r4; READ r0; * r7 r0 r1; PRINT r7; HALT");
        // Just these: the OP, A and B, constants and registers told apart.
        becomes("int a,b;read a;read b;print a*b;print b*a;",
            "READ r0; READ r1; * r4 r0 r1; PRINT r4; * r7 r1 r0; PRINT r7; HALT");
        becomes("int a,b;read a;read b;print a+b;print a-b;",
            "READ r0; READ r1; + r4 r0 r1; PRINT r4; - r7 r0 r1; PRINT r7; HALT");
        becomes("int a,b;read a;read b;print a+1;print a+b;print a+1;",
            "READ r0; READ r1; + r3 r0 1; PRINT r3; + r6 r0 r1; PRINT r6; PRINT r3; HALT");
        becomes("int a,b;read a;read b;print 0-b;print a-b;print 1-b;",
            "READ r0; READ r1; - r3 0 r1; PRINT r3; - r6 r0 r1; PRINT r6; - r8 1 r1; PRINT r8; HALT");
        becomes("int a;read a;print -a;print !a;print ~a;print -a+!a+~a;",
            "READ r0; neg r2 r0; PRINT r2; not r4 r0; PRINT r4; turn r6 r0; PRINT r6; + r11 r2 r4; + r14 r11 r6; PRINT r14; HALT");
        // A COPY of D to D becomes nothing.
        becomes("int a;read a;a=a;", "READ r0; HALT");
        becomes("int a,b;read a;b=a;a=b;print a;", "READ r0; PRINT r0; HALT");
    }

    /** If by all ways from 0 to it an instruction with just these defined E. */
    private static void byAllWays() {
        becomes("int a,b;read a;if(a)b=a;print b;", "READ r0; ZERO 3 r0; COPY r1 r0; PRINT r1; HALT");
        becomes("int a,b;read a;if(a)b=a;else b=a;print b;", "READ r0; PRINT r0; HALT");
        becomes("int a,b;read a;b=a;if(a)print 1;print b;", "READ r0; ZERO 3 r0; PRINT 1; PRINT r0; HALT");
        becomes("int a,b;read a;b=a;if(a)read b;print b;", "READ r0; COPY r1 r0; ZERO 4 r0; READ r1; PRINT r1; HALT");
        becomes("int a,b;read a;b=a;if(a)read a;print b;", "READ r0; COPY r1 r0; ZERO 4 r0; READ r0; PRINT r1; HALT");
        becomes("int a,b,c;read a;read b;print a*b;while(b){print a*b;read c;b=c;}",
            "READ r0; READ r1; * r5 r0 r1; PRINT r5; ZERO 10 r1; * r9 r0 r1; PRINT r9; READ r2; COPY r1 r2; JUMP 4; HALT");
        becomes("int a,b,c;read a;read b;print a*b;while(c<b){print a*b;read c;}",
            "READ r0; READ r1; * r5 r0 r1; PRINT r5; < r8 r2 r1; ZERO 9 r8; PRINT r5; READ r2; JUMP 4; HALT");
        // Nothing is held before instruction 0, though a ring comes to it.
        becomes("int a,b;do{print b;read a;b=a;}while(1);", "PRINT r1; READ r0; COPY r1 r0; JUMP 0");
    }

    /** An expression is the OP, A and B of a COPY or one of 2 to 20. */
    private static void loadsAndReadsAreNotHeld() {
        becomes("row r[2];print r[0];print r[0];", "LOAD r0 0 of 0; PRINT r0; LOAD r1 0 of 0; PRINT r1; HALT");
        becomes("int a,b;read a;read b;print a;print b;", "READ r0; READ r1; PRINT r0; PRINT r1; HALT");
        // But what is worked out of one is, whatever is stored.
        becomes("row r[2];int a;a=r[0];print a+1;r[0]=a;print a+1;",
            "LOAD r1 0 of 0; + r3 r1 1; PRINT r3; STORE of 0 0 r1; PRINT r3; HALT");
    }

    /** Left out are 2 to 21 whose D is not live, but / % whose B is not a constant other than 0. */
    private static void deadDivisions() {
        int[] good = {1, -1, 2, MOST, LEAST};
        for (int v : good) {
            becomes("int a,b;read a;b=a/" + Press.number(v) + ";", "READ r0; HALT");
            becomes("int a,b;read a;b=a%" + Press.number(v) + ";", "READ r0; HALT");
        }
        becomes("int a,b;read a;b=a/0;", "READ r0; / r3 r0 0; HALT");
        becomes("int a,b;read a;b=a%0;", "READ r0; % r3 r0 0; HALT");
        becomes("int a,b;read a;b=7/a;", "READ r0; / r3 7 r0; HALT");
        becomes("int a,b;read a;b=7%a;", "READ r0; % r3 7 r0; HALT");
        becomes("int a,b;read a;b=a*0;b=a<<a;b=a==a;b=-a;b=!a;b=~a;b=a-7;", "READ r0; HALT");
        becomes("int b;b=7/0;b=7/1;", "/ r1 7 0; HALT");
    }

    /** And LOAD whose A is not a constant within the row. */
    private static void deadLoads() {
        int[] sizes = {1, 2, 99, 100};
        for (int n : sizes) {
            String rows = "int a;row q[50];row r[" + n + "];row p[1];";
            int[] within = {0, n / 2, n - 1};
            for (int cell : within) {
                becomes(rows + "a=r[" + cell + "];", "HALT");
            }
            becomes(rows + "a=r[" + n + "];", "LOAD r1 " + n + " of 1; HALT");
            becomes(rows + "a=r[-1];", "LOAD r2 -1 of 1; HALT");
            becomes(rows + "a=r[2147483647];", "LOAD r1 2147483647 of 1; HALT");
            becomes(rows + "a=r[-2147483647-1];", "LOAD r3 -2147483648 of 1; HALT");
            becomes(rows + "read a;a=r[a];", "READ r0; LOAD r2 r0 of 1; HALT");
            becomes(rows + "a=r[0];print a;", "LOAD r1 0 of 1; PRINT r1; HALT");
        }
    }

    /** SET, COPY and 2 to 21 alone become nothing. */
    private static void whatIsNeverDead() {
        becomes("int a;read a;read a;", "READ r0; READ r0; HALT");
        becomes("row r[1];r[0]=1;r[0]=2;", "STORE of 0 0 1; STORE of 0 0 2; HALT");
        becomes("row r[1];r[1]=1;r[-1]=2;", "STORE of 0 1 1; STORE of 0 -1 2; HALT");
        becomes("print 1;", "PRINT 1; HALT");
        becomes("int a,b;a=1;b=2;a=3;b=a;", "HALT");
        // An int that is used by nothing but itself in a ring is live.
        becomes("int a,b;do{read b;a=a+1;}while(b);", "READ r1; + r3 r0 1; COPY r0 r3; MANY 0 r1; HALT");
        becomes("int a,b;do{read b;a=b+1;}while(b);", "READ r1; MANY 0 r1; HALT");
    }

    /** They are left out, all at once: what lived by one that goes is left out in the next round. */
    private static void allAtOnce() {
        // READ r0; COPY r1 r0; + r2 r1 1; COPY r0 r2; HALT: the last COPY, then what it used.
        becomes("int a;read a;a=a+1;", 3, "READ r0; HALT");
        becomes("int a;read a;a=-a;", 3, "READ r0; HALT");
        becomes("int a;read a;a=a;", 2, "READ r0; HALT");
        becomes("int a;read a;a=a+1+2;", 4, "READ r0; HALT");
        becomes("int a;read a;a=a+1+2+3;", 5, "READ r0; HALT");
        becomes("int a;a=5;", 2, "HALT");
    }

    /** ZERO and MANY with a constant become JUMP, or nothing. */
    private static void testsOfConstants() {
        int[] truths = {1, 2, MOST};
        for (int v : truths) {
            becomes("if(" + v + ")print 1;print 2;", "PRINT 1; PRINT 2; HALT");
            becomes("if(-" + v + ")print 1;print 2;", "PRINT 1; PRINT 2; HALT");
            becomes("do print 1;while(" + v + ");print 2;", "PRINT 1; JUMP 0");
            becomes("do print 1;while(-" + v + ");print 2;", "PRINT 1; JUMP 0");
            becomes("while(" + v + ")print 1;print 2;", "PRINT 1; JUMP 0");
        }
        becomes("if(0)print 1;print 2;", "PRINT 2; HALT");
        becomes("if(0)print 1;else print 3;print 2;", "PRINT 3; PRINT 2; HALT");
        becomes("do print 1;while(0);print 2;", "PRINT 1; PRINT 2; HALT");
        becomes("while(0)print 1;print 2;", "PRINT 2; HALT");
        becomes("int a;read a;if(a)print 1;print 2;", "READ r0; ZERO 3 r0; PRINT 1; PRINT 2; HALT");
        becomes("int a;read a;do print 1;while(a);", "READ r0; PRINT 1; MANY 1 r0; HALT");
    }

    /** Each D of JUMP, ZERO, MANY that is a JUMP becomes where that goes, and so on. */
    private static void jumpsToJumps() {
        // The inner if's end is the JUMP of the while: one, two and three JUMPs in a chain.
        becomes("int a;read a;while(a)if(a<5)read a;",
            "READ r0; ZERO 6 r0; < r3 r0 5; ZERO 1 r3; READ r0; JUMP 1; HALT");
        becomes("int a;read a;while(a)if(a<5){if(a<3)read a;}",
            "READ r0; ZERO 8 r0; < r3 r0 5; ZERO 1 r3; < r5 r0 3; ZERO 1 r5; READ r0; JUMP 1; HALT");
        becomes("int a;read a;if(a)if(a<3)print 1;else print 2;else print 3;print 4;",
            "READ r0; ZERO 8 r0; < r3 r0 3; ZERO 6 r3; PRINT 1; JUMP 9; PRINT 2; JUMP 9; PRINT 3; PRINT 4; HALT");
        becomes("int a;read a;while(a){if(a<3){if(a<2)read a;else print 2;}else print 3;}",
            "READ r0; ZERO 12 r0; < r3 r0 3; ZERO 10 r3; < r5 r0 2; ZERO 8 r5; READ r0; JUMP 1; PRINT 2; JUMP 1; PRINT 3; JUMP 1; HALT");
        becomes("int a;do{read a;if(a)next;print 5;}while(1);", "READ r0; ZERO 3 r0; JUMP 0; PRINT 5; JUMP 0");
    }

    /** Unless this comes round to a JUMP that it came by (then it stays). */
    private static void ringsOfJumps() {
        becomes("while(1){}", "JUMP 0");
        becomes("do{}while(1);", "JUMP 0");
        becomes("do{next;}while(1);", "JUMP 0");
        becomes("while(1)next;", "JUMP 0");
        becomes("while(1){while(1){}}", "JUMP 0");
        becomes("while(1){while(1)break;}", "JUMP 0");
        becomes("while(1){do next;while(0);next;}", "JUMP 0");
        becomes("while(1){do{do next;while(0);next;}while(0);next;}", "JUMP 0");
        becomes("print 1;while(1){}print 2;", "PRINT 1; JUMP 1");
        becomes("int a;read a;if(a)while(1){}print 2;", "READ r0; ZERO 3 r0; JUMP 2; PRINT 2; HALT");
        becomes("int a;read a;if(a)print 1;else while(1){}", "READ r0; ZERO 4 r0; PRINT 1; JUMP 5; JUMP 4; HALT");
        becomes("int a;read a;if(a)print 1;else do next;while(1);", "READ r0; ZERO 4 r0; PRINT 1; JUMP 5; JUMP 4; HALT");
        becomes("int a;read a;if(a)while(1){}else while(1){}", "READ r0; ZERO 3 r0; JUMP 2; JUMP 3");
        String[] rings = {"while(1){}", "do next;while(1);", "while(1){do next;while(0);next;}"};
        for (String text : rings) {
            Press p = Press.improved(text);
            Press.dueText("the ring ends by its fuel", p.run(2, 5), "6: (0, 5)");
            Press.dueText("by colours, too", p.run(3, 100000), "6: (0, 100000)");
        }
    }

    /** Each JUMP, ZERO, MANY whose D is the next instruction, all at once (a ZERO or MANY, too). */
    private static void jumpsToTheNext() {
        becomes("int a;read a;if(a){}", 2, "READ r0; HALT");
        becomes("int a;read a;if(a){}else{}", 3, "READ r0; HALT");
        becomes("int a;read a;if(a){}else print 1;", "READ r0; ZERO 3 r0; JUMP 4; PRINT 1; HALT");
        becomes("int a;read a;if(a)print 1;else{}", "READ r0; ZERO 3 r0; PRINT 1; HALT");
        becomes("int a;do{read a;if(a)break;}while(0);", "READ r0; HALT");
        becomes("def f(){return 1;}f();f();", "HALT");
        becomes("int a;read a;do{}while(a);", "READ r0; MANY 1 r0; HALT");
        becomes("int a;read a;while(a){}", "READ r0; ZERO 3 r0; JUMP 1; HALT");
    }

    /** Instructions that are not reached go. */
    private static void notReached() {
        becomes("while(1){print 1;break;print 2;}print 3;", "PRINT 1; PRINT 3; HALT");
        becomes("while(1){print 1;next;print 2;}print 3;", "PRINT 1; JUMP 0");
        becomes("def f(){return 1;print 2;}print f();", "PRINT 1; HALT");
        becomes("while(1)print 1;", "PRINT 1; JUMP 0");
        becomes("int a;read a;if(a)while(1)print 1;else while(1)print 2;print 3;",
            "READ r0; ZERO 4 r0; PRINT 1; JUMP 2; PRINT 2; JUMP 4");
        // What is not reached uses nothing, once it is gone.
        becomes("int a;read a;while(1){}print a;", "READ r0; JUMP 1");
        becomes("int a;a=a+7;if(0)print a;", "HALT");
    }

    /** Until a round changes nothing; that one counts, too. */
    private static void roundsThatChangeNothing() {
        becomes("", 1, "HALT");
        becomes("print 1;", 1, "PRINT 1; HALT");
        becomes("int a;read a;", 1, "READ r0; HALT");
        becomes("row r[1];r[0]=2;", 1, "STORE of 0 0 2; HALT");
        becomes("row r[1];print r[0];", 1, "LOAD r0 0 of 0; PRINT r0; HALT");
        becomes("print 1/0;", 1, "/ r0 1 0; PRINT r0; HALT");
        becomes("print 1+1;", 2, "PRINT 2; HALT");
        becomes("int a;read a;print a;", 2, "READ r0; PRINT r0; HALT");
        becomes("while(1){}", 2, "JUMP 0");
        becomes("do print 1;while(1);", 2, "PRINT 1; JUMP 0");
        // a+1 and b+1: the operands in the first round, the second sum in the second, its copy in the third.
        becomes("int a;read a;print a+1;print a+1;", 4, "READ r0; + r2 r0 1; PRINT r2; PRINT r2; HALT");
        becomes("int a;read a;print a+1;print a+1;print a+1;", 4, "READ r0; + r2 r0 1; PRINT r2; PRINT r2; PRINT r2; HALT");
    }

    /** A round that changes nothing but operands counts as one that changes. */
    private static void roundsOfOperandsAlone() {
        String rest = "read c;if(c){read z;read a;}print a+b;";
        becomes("int z,a,b,c;read z;a=z;b=a;print b;" + rest, 4,
            "READ r0; COPY r1 r0; COPY r2 r0; PRINT r0; READ r3; ZERO 8 r3; READ r0; READ r1; + r10 r1 r2; PRINT r10; HALT");
        becomes("int z,a,b,c;read z;a=z;b=a;print 1-b;" + rest, 4,
            "READ r0; COPY r1 r0; COPY r2 r0; - r7 1 r0; PRINT r7; READ r3; ZERO 9 r3; READ r0; READ r1; + r11 r1 r2; PRINT r11; HALT");
    }

    /** Becomes COPY D of the least such one: r4 is defined before r1, and both hold it; by r1 it takes a round more. */
    private static void theLeastThatHolds() {
        becomes("int b;read b;print (b!=0||1)&&b;print b!=0;", 5, "READ r0; != r4 r0 0; PRINT r4; PRINT r4; HALT");
        becomes("int b;read b;print b!=0;print b!=0;", 4, "READ r0; != r2 r0 0; PRINT r2; PRINT r2; HALT");
    }

    /** Two are APART, if at some instruction that defines the one the other is live behind it (but not the two of a COPY). */
    private static void theTwoOfACopy() {
        Press p = Press.improved("int a,b;read a;read b;print a+b;");
        Press.due("a and b", p.x.colour(1), 1);
        Press q = Press.improved("int a,b;read a;print a;read b;print b;");
        Press.due("one behind the other", q.x.colour(1), 0);
        // READ r0; READ r2; ZERO 6 r2; COPY r1 r0; PRINT r0; JUMP 7; READ r1; PRINT r1; HALT
        Press copy = Press.improved("int a,b,c;read a;read c;if(c){b=a;print a;}else read b;print b;");
        Press.due("both live behind the COPY", copy.x.isLive(true, 3, 0) && copy.x.isLive(true, 3, 1) ? 1 : 0, 1);
        Press.due("the two of a COPY", copy.x.colour(0) == copy.x.colour(1) ? 1 : 0, 1);
        // The other definition of b while a lives sets them apart.
        Press both = Press.improved("int a,b,c;read a;read c;if(c)b=a;else read b;print b;print a;");
        Press.due("apart by another one", both.x.colour(0) == both.x.colour(1) ? 1 : 0, 0);
        // One that is defined and not used takes a colour beside what lives then.
        Press dead = Press.improved("int a,b;read a;read b;print a;");
        Press.due("live", dead.x.colour(0), 0);
        Press.due("dead beside it", dead.x.colour(1), 1);
        Press.due("colours", dead.x.told(6), 2);
        Press.dueText("it runs", dead.input(3, 4).shown(3), "0: 3");
    }

    /** At the beginning all colours are 0. */
    private static void allColoursAreZeroAtFirst() {
        Press p = Press.improved("int a,b;do{print b;read a;b=b+a;print a;}while(b<9);").input(5, 6);
        for (int which = 1; which < 4; which++) {
            Press.dueText("run " + which, p.shown(which), "0: 0 5 5 6");
            Press.dueText("run " + which + " again", p.shown(which), "0: 0 5 5 6");
        }
    }

    /** What was lowered and improved before is gone. */
    private static void lowerAndImproveAgain() {
        Press p = Press.improved("int a;read a;print a+0;");
        String before = p.listing(true);
        Press.due("improve() again", p.x.improve(), 4);
        Press.dueText("the same code", p.listing(true), before);
        Press.due("the same rounds", p.x.told(7), 2);
        Press.due("lower() again", p.x.lower(), 5);
        Press.dueThrow("code(true, 0, 0)", "IllegalStateException", () -> p.x.code(true, 0, 0));
        Press.dueThrow("isLive(true, 0, 0)", "IllegalStateException", () -> p.x.isLive(true, 0, 0) ? 1 : 0);
        Press.dueThrow("colour(0)", "IllegalStateException", () -> p.x.colour(0));
        Press.dueThrow("run(2, 9)", "IllegalStateException", () -> p.x.run(2, 9));
        Press.dueThrow("run(3, 9)", "IllegalStateException", () -> p.x.run(3, 9));
        Press.due("told(5)", p.x.told(5), 0);
        Press.due("told(6)", p.x.told(6), 0);
        Press.due("told(7)", p.x.told(7), 0);
        Press.due("improve() of the code again", p.x.improve(), 4);
        Press.dueText("the same code again", p.listing(true), before);
    }
}
