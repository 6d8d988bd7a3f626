/**
 * The edges of "2 RUNNING THE TEXT" and of promises 12 to 16, sentence by sentence, each on both of its sides and in
 * all four runs: numbers that come round, the ENDS, FUEL, INPUT and what is printed.
 */
public final class EdgesOfRunsTest {
    private static final int LEAST = Integer.MIN_VALUE;
    private static final int MOST = Integer.MAX_VALUE;

    public static void main(String[] args) {
        numbersComeRound();
        cutTowardsZero();
        lowestFiveBits();
        oneOrZero();
        rightSideOnlyIf();
        fromLeftToRight();
        zeroAtFirst();
        endsInTheMidst();
        innermostLoop();
        whatADefIs();
        dividedByZero();
        cellsThatTheRowHasNot();
        nothingLeftToRead();
        threeHundredPrints();
        fuelOfStatements();
        fuelOfInstructions();
        leastAndMostFuel();
        whichEndComesFirst();
        twoHundredInputs();
        eachRunReadsFromTheFirst();
        whichAndFuel();
        whatWasPrinted();
        whatIsTold();
        Press.end("EdgesOfRunsTest");
    }

    private static void shows(String text, String want, int... input) {
        Press.shows(text, want, input);
    }

    /** The exprs of a and b, once with numbers that are known and once with such as are read. */
    private static void are(int a, int b, String[] exprs, int... want) {
        StringBuilder prints = new StringBuilder();
        StringBuilder due = new StringBuilder("0:");
        for (int k = 0; k < exprs.length; k++) {
            prints.append("print ").append(exprs[k]).append(';');
            due.append(' ').append(want[k]);
        }
        shows("int a,b;a=" + Press.number(a) + ";b=" + Press.number(b) + ";" + prints, due.toString());
        shows("int a,b;read a;read b;" + prints, due.toString(), a, b);
    }

    /** Numbers are of 32 bits and come round. */
    private static void numbersComeRound() {
        int[] edges = {LEAST, LEAST + 1, -65536, -46341, -1, 0, 1, 2, 46340, 46341, 65535, 65536, MOST - 1, MOST};
        String[] exprs = {"a+b", "a-b", "a*b", "-a", "~a", "a&b", "a|b", "a^b"};
        for (int a : edges) {
            for (int b : edges) {
                long sum = (long) a + b;
                long rest = (long) a - b;
                long product = (long) a * b;
                are(a, b, exprs, (int) sum, (int) rest, (int) product, (int) -(long) a, -1 - a, a & b, a | b, a ^ b);
            }
        }
        shows("print 2147483647+0;print 2147483647+1;print -2147483647-1;print -2147483647-2;",
            "0: 2147483647 -2147483648 -2147483648 2147483647");
        shows("print 46340*46340;print 46341*46341;print 65536*32767;print 65536*32768;print 65536*65536;",
            "0: 2147395600 -2147479015 2147418112 -2147483648 0");
        shows("int i;i=2147483647;i=i+1;print i<0;i=i-1;print i>0;", "0: 1 1");
    }

    /** / and % cut towards 0. */
    private static void cutTowardsZero() {
        String[] exprs = {"a/b", "a%b"};
        are(7, 2, exprs, 3, 1);
        are(-7, 2, exprs, -3, -1);
        are(7, -2, exprs, -3, 1);
        are(-7, -2, exprs, 3, -1);
        are(6, 3, exprs, 2, 0);
        are(-6, 3, exprs, -2, 0);
        are(1, 2, exprs, 0, 1);
        are(-1, 2, exprs, 0, -1);
        are(0, 5, exprs, 0, 0);
        are(0, -5, exprs, 0, 0);
        are(LEAST, 1, exprs, LEAST, 0);
        are(LEAST, -1, exprs, LEAST, 0);
        are(LEAST + 1, -1, exprs, MOST, 0);
        are(MOST, -1, exprs, -MOST, 0);
        are(LEAST, LEAST, exprs, 1, 0);
        are(MOST, LEAST, exprs, 0, MOST);
        are(LEAST, MOST, exprs, -1, -1);
        are(LEAST, 2, exprs, -1073741824, 0);
    }

    /** << and >> (with the sign) by the lowest five bits of the right one. */
    private static void lowestFiveBits() {
        String[] exprs = {"a<<b", "a>>b"};
        int[] numbers = {1, -1, 5, -8, LEAST, MOST};
        int[] shifts = {0, 1, 30, 31, 32, 33, 63, 64, -1, -31, -32, -33, 256, LEAST, MOST};
        for (int a : numbers) {
            for (int b : shifts) {
                int bits = Math.floorMod(b, 32);
                long power = 1L << bits;
                are(a, b, exprs, (int) (a * power), (int) Math.floorDiv((long) a, power));
            }
        }
        shows("print 1<<31;print 1<<32;print -1>>31;print -1>>32;print 1<<-1;", "0: -2147483648 1 -1 -1 -2147483648");
    }

    /** Comparisons, ! && || are 1 or 0. */
    private static void oneOrZero() {
        String[] exprs = {"a==b", "a!=b", "a<b", "a<=b", "a>b", "a>=b", "!a", "a&&b", "a||b"};
        int[] edges = {LEAST, LEAST + 1, -1, 0, 1, 2, MOST - 1, MOST};
        for (int a : edges) {
            for (int b : edges) {
                int less = Integer.compare(a, b);
                are(a, b, exprs, less == 0 ? 1 : 0, less != 0 ? 1 : 0, less < 0 ? 1 : 0, less <= 0 ? 1 : 0, less > 0 ? 1 : 0,
                    less >= 0 ? 1 : 0, a == 0 ? 1 : 0, a != 0 && b != 0 ? 1 : 0, a != 0 || b != 0 ? 1 : 0);
            }
        }
        // Any number but 0 is as good as 1 for a test.
        shows("int a;read a;if(a)print 1;else print 2;while(a){print 3;break;}do{print 4;if(a<0)a=0;}while(a);",
            "0: 1 3 4", LEAST);
        shows("int a;read a;if(a)print 1;else print 2;while(a){print 3;break;}do print 4;while(a);", "0: 2 4", 0);
    }

    /** && and || look at the right side only if the left one does not tell. */
    private static void rightSideOnlyIf() {
        String def = "def t(x){print x;return x;}";
        shows(def + "print t(0)&&t(1);", "0: 0 0");
        shows(def + "print t(2)&&t(1);", "0: 2 1 1");
        shows(def + "print t(2)&&t(0);", "0: 2 0 0");
        shows(def + "print t(0)||t(3);", "0: 0 3 1");
        shows(def + "print t(0)||t(0);", "0: 0 0 0");
        shows(def + "print t(-1)||t(3);", "0: -1 1");
        shows("int a;read a;print a&&1/0;print 1/1||1/0;", "0: 0 1", 0);
        shows("int a;read a;print a&&1/0;", "4:", 5);
        shows("int a;read a;print a||1/0;", "0: 1", 5);
        shows("int a;read a;print a||1/0;", "4:", 0);
        shows("row r[1];int a;read a;print a<1&&a>=0&&r[a]+1;", "0: 0", 1);
        shows("row r[1];int a;read a;print a<1&&a>=0&&r[a]+1;", "0: 0", -1);
        shows("row r[1];int a;read a;print a<1&&a>=0&&r[a]+1;", "0: 1", 0);
    }

    /** All goes from the left to the right (NAME [ e ] = f: e, f, then the cell is looked for). */
    private static void fromLeftToRight() {
        String def = "row r[2];def t(x){print x;return x;}";
        shows(def + "print t(1)+t(2)*t(3);", "0: 1 2 3 7");
        shows(def + "r[t(2)]=t(5);", "7: 2 5");
        shows(def + "r[t(1)]=t(5);print r[1];", "0: 1 5 5");
        shows(def + "r[t(9)]=t(1)/0;", "4: 9 1");
        shows(def + "r[1/0]=t(1);", "4:");
        shows(def + "r[r[2]]=t(1);", "7:");
        shows("row r[2];r[2]=1/0;", "4:");
        shows("row r[2];r[2]=r[-1]/0;", "7:");
        shows("int a;def f(){a=a+1;return a;}print a+f()*10+a;", "0: 11");
        shows("row r[2];def f(){r[0]=r[0]+1;return r[0];}r[r[0]]=f();print r[0];print r[1];", "0: 1 0");
    }

    /** Ints of decls and cells are 0 at first, an int of a block each time that it is come by. */
    private static void zeroAtFirst() {
        shows("int a,b;row r[100];print a;print b;print r[0];print r[99];", "0: 0 0 0 0");
        shows("int i;while(i<3){i=i+1;int a;print a;a=i;print a;}", "0: 0 1 0 2 0 3");
        shows("int i;do{int a;a=a+1;i=i+1;print a;}while(i<3);", "0: 1 1 1");
        shows("def f(){int a;a=a+1;return a;}print f();print f();print f()+f();", "0: 1 1 2");
        shows("print 1;int a;a=a+1;print a;", "0: 1 1");
        // Each run begins anew: neither ints nor cells are those of the run before.
        Press p = Press.improved("int a;row r[1];a=a+1;r[0]=r[0]+1;print a+r[0];");
        for (int k = 0; k < 3; k++) {
            for (int which = 0; which < 4; which++) {
                Press.dueText("run " + which + " again", p.shown(which), "0: 2");
            }
        }
    }

    /** A run that ended in the midst of exprs and defs leaves nothing to the next one. */
    private static void endsInTheMidst() {
        String level = "1|1^1&1==1<1<<1+1*(";
        Press deep = Press.of("print " + level.repeat(24) + "1/0" + ")".repeat(24) + ";");
        StringBuilder defs = new StringBuilder("def f0(x){print x;return 1/x;}");
        for (int k = 1; k < 15; k++) {
            defs.append("def f" + k + "(x){return 1+f" + (k - 1) + "(x);}");
        }
        Press nested = Press.of("int a;" + defs + "read a;print f14(a);");
        nested.x.input(0);
        for (int times = 0; times < 40; times++) {
            Press.dueText("an expr again", deep.run(0, 9), "4: (0, 1)");
            Press.dueText("calls again", nested.run(0, 99), "4: 0 (1, 18)");
            Press.dueText("calls without fuel again", nested.run(0, 10), "6: (1, 10)");
        }
        nested.x.clear();
        Press.dueText("what ends well", nested.input(1).run(0, 99), "0: 1 15 (1, 18)");
    }

    /** break leaves the innermost loop, next goes to its test. */
    private static void innermostLoop() {
        shows("int i;while(i<2){i=i+1;while(1){break;}print i;}", "0: 1 2");
        shows("int i,j;while(i<2){i=i+1;j=0;while(j<2){j=j+1;if(j==1)next;print i*10+j;}}", "0: 12 22");
        shows("int i;do{i=i+1;if(i<3)next;print i;}while(i<4);", "0: 3 4");
        shows("int i;do{i=i+1;if(i<3)next;break;}while(i<2);print i;", "0: 2");
        shows("int i;while(i<3){do{i=i+1;if(i==2)break;}while(0);print i;}", "0: 1 2 3");
        severalInOneLoop();
    }

    /** Each of several breaks and nexts goes where its own loop wants it, before, in and behind a loop within. */
    private static void severalInOneLoop() {
        for (int k = 0; k < 4; k++) {
            String want = k < 3 ? "0: 0 " + (k + 10) + " 7" : "0: 0 13 1 2 7";
            String body = "print i;if(a==0){print 10;break;}if(a==1){print 11;break;}if(a==2){print 12;break;}if(i==0)print 13;i=i+1;";
            shows("int a,i;read a;while(i<3){" + body + "}print 7;", want, k);
            shows("int a,i;read a;do{" + body + "}while(i<3);print 7;", want, k);
            String nexts = body.replace("break", "i=i+1;next").replace("if(i==0)print 13;", "print 13;");
            String line = k < 3 ? k + 10 + " " : "13 ";
            String all = "0: 0 " + line + "1 " + line + "2 " + line + "7";
            shows("int a,i;read a;while(i<3){" + nexts + "}print 7;", all, k);
            shows("int a,i;read a;do{" + nexts + "}while(i<3);print 7;", all, k);
        }
        shows("def f(){int x;x=x+1;return x;}int i,j;while(i<3){i=i+1;if(i==1)next;j=0;while(j<2)j=j+1;print f();}", "0: 1 1");
        shows("def f(){int x;x=x+1;return x;}int i,j;do{i=i+1;if(i==1)next;j=0;do j=j+1;while(j<2);print f();}while(i<3);", "0: 1 1");
        String[] inner = {"while(j<2){j=j+1;if(a==2)break;if(a==3)next;print j;}", "do{j=j+1;if(a==2)break;if(a==3)next;print j;}while(j<2);"};
        String[] due = {"0: 0 9", "0: 0 1 9", "0: 0 5 1 5 9", "0: 0 5 1 5 9", "0: 0 1 2 9", "0: 0 1 2 5 1 1 2 5 9"};
        for (String loop : inner) {
            String body = "print i;i=i+1;j=0;if(a==0)break;if(a==1)next;" + loop + "if(a==4)break;if(a==6)next;print 5;";
            for (int a = 0; a < 6; a++) {
                shows("int a,i,j;read a;while(i<2){" + body + "}print 9;", due[a], a);
                shows("int a,i,j;read a;do{" + body + "}while(i<2);print 9;", due[a], a);
            }
            shows("int a,i,j;read a;while(i<2){" + body + "}print 9;", "0: 0 1 2 1 1 2 9", 6);
            shows("int a,i,j;read a;do{" + body + "}while(i<2);print 9;", "0: 0 1 2 1 1 2 9", 6);
            // A loop that is the last of another one's statement.
            String last = "i=i+1;j=0;if(a==0)break;if(a==1)next;" + loop;
            String[] dueLast = {"0: 9", "0: 9", "0: 9", "0: 9", "0: 1 2 1 2 9"};
            for (int a = 0; a < 5; a++) {
                shows("int a,i,j;read a;while(i<2){" + last + "}print 9;", dueLast[a], a);
                shows("int a,i,j;read a;do{" + last + "}while(i<2);print 9;", dueLast[a], a);
                shows("int a,i,j;read a;while(i<2){print i;" + last + "}", a == 0 ? "0: 0" : a == 4 ? "0: 0 1 2 1 1 2" : "0: 0 1", a);
            }
        }
    }

    /** A def called gets its numbers; it is what return tells, 0 without. */
    private static void whatADefIs() {
        shows("def f(){}print f();", "0: 0");
        shows("def f(x){if(x)return x;}print f(0);print f(7);print f(0);", "0: 0 7 0");
        shows("def f(x){x=9;}int a;a=3;f(a);print a;print f(a);", "0: 3 0");
        shows("def f(a,b,c,d,e,g){return a*100000+b*10000+c*1000+d*100+e*10+g;}print f(1,2,3,4,5,6);", "0: 123456");
        shows("def f(){while(1)while(1)return 5;}print f();", "0: 5");
        shows("def f(x){return x;print 8;}f(1);print f(f(2)+f(3));", "0: 5");
        for (int a = 0; a < 4; a++) {
            shows("def f(x){if(x==0)return 5;if(x==1)return 6;while(1){if(x==2)return 7;break;}}int a;read a;print f(a);",
                "0: " + (a == 3 ? 0 : a + 5), a);
        }
        // What a call as a statement is goes, however many there are.
        shows("def f(x){return x;}int i;while(i<5000){f(i);i=f(i)+1;}print i;print f(3)*2;", "0: 5000 6");
    }

    /** 4 divided by 0. */
    private static void dividedByZero() {
        int[] numbers = {0, 1, -1, LEAST, MOST};
        String[] signs = {"/", "%"};
        for (int a : numbers) {
            for (String sign : signs) {
                shows("print 7;print " + Press.number(a) + sign + "0;print 8;", "4: 7");
                shows("int b;print 7;b=" + Press.number(a) + sign + "b;print 8;", "4: 7");
                shows("int a,b;print 7;read a;read b;a=a" + sign + "b;print 8;", "4: 7", a, 0);
                shows("int a,b;print 7;read a;read b;a=a" + sign + "b;print 8;", "0: 7 8", a, 1);
                shows("int a,b;print 7;read a;read b;a=a" + sign + "b;print 8;", "0: 7 8", a, -1);
            }
        }
        shows("if(1/0)print 1;", "4:");
        shows("while(1%0)print 1;", "4:");
        shows("do print 1;while(1/0);", "4: 1");
        shows("def f(x){print 2;}f(1/0);", "4:");
        shows("def f(){return 1/0;}print 2;print f();", "4: 2");
    }

    /** 7 a cell that the row has not. */
    private static void cellsThatTheRowHasNot() {
        int[] sizes = {1, 2, 50, 99, 100};
        for (int n : sizes) {
            String rows = "row p[100];row r[" + n + "];row q[100];";
            int[] cells = {LEAST, -n, -1, 0, n - 1, n, n + 1, 100, 256, 65536, MOST};
            for (int cell : cells) {
                boolean has = cell >= 0 && cell < n;
                String is = Press.number(cell);
                shows(rows + "print 1;print r[" + is + "];", has ? "0: 1 0" : "7: 1");
                shows(rows + "print 1;r[" + is + "]=5;print 2;", has ? "0: 1 2" : "7: 1");
                shows(rows + "int i;i=r[" + is + "];print 2;", has ? "0: 2" : "7:");
                shows(rows + "int i;read i;print r[i];", has ? "0: 0" : "7:", cell);
                shows(rows + "int i;read i;r[i]=5;print r[i];", has ? "0: 5" : "7:", cell);
                shows(rows + "int i,j;read i;j=r[i];print 2;", has ? "0: 2" : "7:", cell);
            }
            // Its last cell is none of its neighbour's.
            shows(rows + "r[0]=1;r[" + (n - 1) + "]=2;print p[99]+p[0]+q[0]+q[99];print r[" + (n - 1) + "];", "0: 0 2");
        }
    }

    /** 5 nothing left to read. */
    private static void nothingLeftToRead() {
        String text = "int a;read a;print a;read a;print a;";
        shows(text, "5:");
        shows(text, "5: 1", 1);
        shows(text, "0: 1 2", 1, 2);
        shows(text, "0: 1 2", 1, 2, 3);
        int[] taken = {0, 1, 2, 2};
        for (int n = 0; n < 4; n++) {
            Press p = Press.improved(text);
            for (int k = 0; k < n; k++) {
                p.x.input(k);
            }
            for (int which = 0; which < 4; which++) {
                p.x.run(which, 100);
                Press.due("told(1) of " + n, p.x.told(1), taken[n]);
            }
        }
    }

    /** 8 a print when 300 numbers were printed. */
    private static void threeHundredPrints() {
        String[] ends = {"0", "0", "8", "8"};
        int[] counts = {299, 300, 301, 400};
        for (int k = 0; k < counts.length; k++) {
            Press p = Press.improved("int i;while(i<" + counts[k] + "){i=i+1;print i;}");
            for (int which = 0; which < 4; which++) {
                Press.dueText(counts[k] + " prints, run " + which, "" + p.x.run(which, 100000), ends[k]);
                int most = Math.min(counts[k], 300);
                Press.due("told(0)", p.x.told(0), most);
                Press.due("the first", p.x.printed(0), 1);
                Press.due("the last", p.x.printed(most - 1), most);
                Press.dueThrow("the one behind", "IndexOutOfBoundsException", () -> p.x.printed(most));
            }
        }
        // The 301st print's expr is worked out before; what is no print goes on.
        Press p = Press.improved("int i,a;while(i<300){i=i+1;print i;}a=i/3;print 1/0;");
        Press.due("4 before 8", p.x.run(0, 100000), 4);
        Press.due("4 before 8, code", p.x.run(1, 100000), 4);
        Press q = Press.improved("int i,a;while(i<300){i=i+1;print i;}read a;a=a+1;");
        Press.due("nothing is printed any more", q.input(1).x.run(0, 100000), 0);
        Press.due("it was read", q.x.told(1), 1);
    }

    /** Just as much FUEL is enough, and with one less the run ends with 6. */
    private static void needs(Press p, int which, int fuel, String end) {
        Press.dueText("run " + which + " with " + fuel, p.x.run(which, fuel) + " " + p.x.told(2), end + " " + fuel);
        if (fuel < 100000) {
            Press.dueText("with one more", p.x.run(which, fuel + 1) + " " + p.x.told(2), end + " " + fuel);
        }
        if (fuel > 0) {
            Press.dueText("with one less", p.x.run(which, fuel - 1) + " " + p.x.told(2), "6 " + (fuel - 1));
        }
    }

    private static void costs(String text, int fuel) {
        needs(Press.of(text), 0, fuel, "0");
    }

    /** One for each statement that is begun but blocks and ints, and one for each test of while and do. */
    private static void fuelOfStatements() {
        costs("", 0);
        costs("{}", 0);
        costs("{{}{int a;}}", 0);
        costs("int a;{}int b;", 0);
        costs("int a;a=1;", 1);
        costs("row r[1];r[0]=1;", 1);
        costs("def f(){}f();", 1);
        costs("def f(){int a;{}}f();", 1);
        costs("def f(){return 1;}f();", 2);
        costs("print 1;", 1);
        costs("if(0)print 1;", 1);
        costs("if(1)print 1;", 2);
        costs("if(1)print 1;else print 2;", 2);
        costs("if(0)print 1;else print 2;", 2);
        costs("if(0){}else{}", 1);
        costs("while(0){}", 2);
        costs("while(1)break;", 3);
        costs("int i;while(i<1){i=i+1;}", 4);
        costs("int i;while(i<1){i=i+1;next;}", 5);
        costs("do{}while(0);", 2);
        costs("do next;while(0);", 3);
        costs("do break;while(0);", 2);
        costs("int i;do i=i+1;while(i<2);", 5);
        costs("def f(){return 1;}print f()+f()+f();", 4);
        costs("def f(){return 1;}print 0&&f();print 1||f();print 1&&f();", 4);
        Press read = Press.of("int a;read a;").input(3);
        needs(read, 0, 1, "0");
        // A statement that ends the run was begun.
        needs(Press.of("print 1/0;"), 0, 1, "4");
        needs(Press.of("int a;a=1;read a;"), 0, 2, "5");
        needs(Press.of("row r[1];r[1]=1;"), 0, 1, "7");
        needs(Press.of("while(1/0){}"), 0, 2, "4");
        // What would need one more than there are is not done.
        Press p = Press.of("print 1;print 2;print 3;");
        String[] due = {"6: (0, 0)", "6: 1 (0, 1)", "6: 1 2 (0, 2)", "0: 1 2 3 (0, 3)", "0: 1 2 3 (0, 3)"};
        for (int fuel = 0; fuel < due.length; fuel++) {
            Press.dueText("three prints with " + fuel, p.run(0, fuel), due[fuel]);
        }
        Press q = Press.of("int a;while(1){read a;print a;}").input(5, 6);
        Press.dueText("a read without fuel", q.run(0, 2), "6: (0, 2)");
        Press.dueText("a read with fuel", q.run(0, 3), "6: (1, 3)");
        Press.dueText("a print with fuel", q.run(0, 4), "6: 5 (1, 4)");
        Press.dueText("a test with fuel", q.run(0, 5), "6: 5 (1, 5)");
    }

    /** An instruction is one of FUEL. */
    private static void fuelOfInstructions() {
        Press none = Press.improved("");
        for (int which = 1; which < 4; which++) {
            needs(none, which, 1, "0");
        }
        Press p = Press.improved("int a;read a;if(a)print a+1;else print 2;").input(4);
        // READ, COPY, ZERO, COPY, +, PRINT, JUMP, HALT; improved READ, ZERO, +, PRINT, JUMP, HALT.
        needs(p, 1, 8, "0");
        needs(p, 2, 6, "0");
        needs(p, 3, 6, "0");
        Press q = Press.improved("row r[1];print 1;r[1]=2;");
        for (int which = 1; which < 4; which++) {
            needs(q, which, 2, "7");
        }
        Press r = Press.improved("int a;read a;");
        for (int which = 1; which < 4; which++) {
            needs(r, which, 1, "5");
        }
        Press s = Press.improved("int a;read a;print a/0;").input(1);
        needs(s, 1, 3, "4");
        needs(s, 2, 2, "4");
        needs(s, 3, 2, "4");
        Press t = Press.improved("print 1;".repeat(301));
        for (int which = 0; which < 4; which++) {
            needs(t, which, 301, "8");
        }
        Press u = Press.improved("while(1){}");
        for (int which = 0; which < 4; which++) {
            Press.dueText("a ring with 9", u.run(which, 9), "6: (0, 9)");
        }
    }

    /** A run with FUEL (0 .. 100000). */
    private static void leastAndMostFuel() {
        // One for the while, 50000 tests, and 49999 times the statement.
        Press most = Press.of("int i;while(i<49999)i=i+1;");
        needs(most, 0, 100000, "0");
        Press more = Press.of("int i;while(i<49999)i=i+1;print i;");
        Press.dueText("one more than the most", more.run(0, 100000), "6: (0, 100000)");
        // COPY, <, ZERO, COPY, +, COPY, JUMP 14285 times; three for the last test, SET and HALT.
        Press code = Press.improved("int i;i=0;while(i<14285)i=i+1;");
        needs(code, 1, 100000, "0");
        Press.due("one more", lowered("int i;i=0;i=0;while(i<14285)i=i+1;").x.run(1, 100000), 6);
        // <, ZERO, +, COPY, JUMP 19999 times; two for the last test, two PRINTs and HALT.
        Press better = Press.improved("int i;print 1;print 2;while(i<19999)i=i+1;");
        needs(better, 2, 100000, "0");
        needs(better, 3, 100000, "0");
        Press.due("one more", Press.improved("int i;print 1;print 2;print 3;while(i<19999)i=i+1;").x.run(3, 100000), 6);
        Press none = Press.improved("print 1;");
        for (int which = 0; which < 4; which++) {
            Press.dueText("no fuel at all", none.run(which, 0), "6: (0, 0)");
        }
    }

    private static Press lowered(String text) {
        Press p = Press.of(text);
        p.x.lower();
        return p;
    }

    /** Of two ENDS at one statement, what comes first as all goes from the left to the right. */
    private static void whichEndComesFirst() {
        Press p = Press.of("int a;print 1;read a;");
        Press.dueText("no fuel for the read", p.run(0, 1), "6: 1 (0, 1)");
        Press.dueText("fuel, and nothing to read", p.run(0, 2), "5: 1 (0, 2)");
        Press q = Press.of("print 1;print 2/0;");
        Press.dueText("no fuel for the division", q.run(0, 1), "6: 1 (0, 1)");
        Press.dueText("fuel for it", q.run(0, 2), "4: 1 (0, 2)");
        Press r = Press.of("print 1;".repeat(301));
        Press.due("no fuel for the 301st print", r.x.run(0, 300), 6);
        Press.due("fuel for it", r.x.run(0, 301), 8);
        shows("row r[1];print r[1]/0;", "7:");
        shows("row r[1];print 1/0+r[1];", "4:");
        shows("row r[1];print r[1/0];", "4:");
    }

    /** A list of at most 200 numbers. IllegalStateException: there are 200. */
    private static void twoHundredInputs() {
        Press p = Press.of("int a,s;while(1){read a;s=s+a;print s;}");
        for (int k = 1; k <= 200; k++) {
            Press.due("input " + k, p.x.input(k), k);
        }
        Press.dueThrow("input 201", "IllegalStateException", () -> p.x.input(9));
        Press.dueThrow("input 201 again", "IllegalStateException", () -> p.x.input(9));
        Press.due("all are read", p.x.run(0, 100000), 5);
        Press.due("so many", p.x.told(1), 200);
        Press.due("their sum", p.x.printed(199), 20100);
        Press.due("clear() of a full one", p.x.clear(), 200);
        Press.due("clear() of an empty one", p.x.clear(), 0);
        Press.due("input() behind it", p.x.input(-3), 1);
        Press.dueText("the new one alone is read", p.run(0, 100), "5: -3 (1, 7)");
        Press.due("clear() of one", p.x.clear(), 1);
        Press q = new Press();
        for (int k = 1; k <= 199; k++) {
            q.x.input(k);
        }
        Press.due("clear() of 199", q.x.clear(), 199);
        int[] numbers = {LEAST, -1, 0, 1, MOST};
        for (int v : numbers) {
            shows("int a;read a;print a;", "0: " + v, v);
        }
    }

    /** Each run reads it from the first one on. */
    private static void eachRunReadsFromTheFirst() {
        Press p = Press.improved("int a;read a;print a;read a;print a;").input(7, 8);
        for (int which = 0; which < 4; which++) {
            Press.dueText("run " + which, p.shown(which), "0: 7 8");
            Press.dueText("run " + which + " again", p.shown(which), "0: 7 8");
        }
        Press.due("a run that ends early", p.x.run(0, 1), 6);
        Press.due("what it took", p.x.told(1), 1);
        Press.dueText("the next run", p.shown(1), "0: 7 8");
        Press.due("a third number", p.x.input(9), 3);
        Press.dueText("comes behind them", p.shown(2), "0: 7 8");
        Press.due("clear() of three", p.x.clear(), 3);
        Press.due("told(1) stays", p.x.told(1), 2);
        Press.dueText("nothing is there", p.shown(3), "5:");
        Press.due("told(1) of that", p.x.told(1), 0);
        // A text that is read leaves INPUT as it is.
        p.input(4).read("int a;read a;print a*2;");
        Press.dueText("the new text", p.shown(0), "0: 8");
        p.read("#");
        Press.due("a fault leaves it, too", p.x.clear(), 1);
    }

    /** IllegalArgumentException: which, the FUEL; IllegalStateException. */
    private static void whichAndFuel() {
        int[] wrongWhich = {-1, 4, 5, LEAST, MOST};
        int[] wrongFuel = {-1, 100001, -100000, LEAST, MOST};
        Press none = new Press();
        Press read = Press.of("print 3;");
        Press lowered = lowered("print 3;");
        Press improved = Press.improved("print 3;");
        Press[] all = {none, read, lowered, improved};
        for (int state = 0; state < 4; state++) {
            Press p = all[state];
            for (int which : wrongWhich) {
                Press.dueThrow("run(" + which + ", 5)", "IllegalArgumentException", () -> p.x.run(which, 5));
                Press.dueThrow("run(" + which + ", -1)", "IllegalArgumentException", () -> p.x.run(which, -1));
            }
            for (int fuel : wrongFuel) {
                for (int which = 0; which < 4; which++) {
                    int w = which;
                    Press.dueThrow("run(" + w + ", " + fuel + ")", "IllegalArgumentException", () -> p.x.run(w, fuel));
                }
            }
            for (int which = 0; which < 4; which++) {
                int w = which;
                boolean can = state > Math.min(which, 2);
                Press.dueText("run(" + w + ", 0) in state " + state, Press.told(() -> p.x.run(w, 0)), can ? "6" : "IllegalStateException");
                Press.dueText("run(" + w + ", 100000) in state " + state, Press.told(() -> p.x.run(w, 100000)),
                    can ? "0" : "IllegalStateException");
            }
        }
        // A call that throws changes nothing of what the latest run did.
        Press p = Press.of("int a;read a;print a;print 6;").input(5);
        p.x.run(0, 9);
        Press.dueThrow("run(4, 9)", "IllegalArgumentException", () -> p.x.run(4, 9));
        Press.dueThrow("run(0, 100001)", "IllegalArgumentException", () -> p.x.run(0, 100001));
        Press.dueThrow("run(1, 9)", "IllegalStateException", () -> p.x.run(1, 9));
        Press.due("told(0)", p.x.told(0), 2);
        Press.due("told(1)", p.x.told(1), 1);
        Press.due("told(2)", p.x.told(2), 3);
        Press.due("printed(1)", p.x.printed(1), 6);
    }

    /** Number i that the latest run printed. IndexOutOfBoundsException. */
    private static void whatWasPrinted() {
        Press none = new Press();
        int[] wrong = {-1, 0, 1, 299, 300, LEAST, MOST};
        for (int i : wrong) {
            Press.dueThrow("printed(" + i + ") before a run", "IndexOutOfBoundsException", () -> none.x.printed(i));
        }
        Press p = Press.of("print 4;print -5;print 0;");
        for (int fuel = 3; fuel >= 0; fuel--) {
            p.x.run(0, fuel);
            int[] due = {4, -5, 0};
            for (int i = 0; i < fuel; i++) {
                Press.due("printed(" + i + ") of " + fuel, p.x.printed(i), due[i]);
            }
            int[] not = {-1, fuel, fuel + 1, 299, 300, LEAST, MOST};
            for (int i : not) {
                Press.dueThrow("printed(" + i + ") of " + fuel, "IndexOutOfBoundsException", () -> p.x.printed(i));
            }
        }
    }

    /** Told(what): 0 to 7; 0 for what there is not. IllegalArgumentException: another what. */
    private static void whatIsTold() {
        Press p = new Press();
        toldAre(p, 0, 0, 0, 0, 0, 0, 0, 0);
        p.input(8).read("int a,b;read a;print a+b;print 3*4;");
        toldAre(p, 0, 0, 0, 0, 0, 0, 0, 0);
        p.x.run(0, 50);
        toldAre(p, 2, 1, 3, 0, 0, 0, 0, 0);
        p.x.lower();
        toldAre(p, 2, 1, 3, 8, 6, 0, 0, 0);
        p.x.run(1, 50);
        toldAre(p, 2, 1, 8, 8, 6, 0, 0, 0);
        p.x.improve();
        // READ r0; + r4 r0 0; PRINT r4; PRINT 12; HALT: one round changed it, the second one nothing.
        toldAre(p, 2, 1, 8, 8, 6, 5, 1, 2);
        p.x.run(2, 50);
        toldAre(p, 2, 1, 5, 8, 6, 5, 1, 2);
        p.x.run(3, 2);
        toldAre(p, 0, 1, 2, 8, 6, 5, 1, 2);
        p.x.lower();
        toldAre(p, 0, 1, 2, 8, 6, 0, 0, 0);
        p.read("print 1;");
        toldAre(p, 0, 1, 2, 0, 0, 0, 0, 0);
    }

    private static void toldAre(Press p, int... want) {
        for (int what = 0; what < 8; what++) {
            Press.due("told(" + what + ")", p.x.told(what), want[what]);
        }
        int[] wrong = {-1, 8, 9, LEAST, MOST};
        for (int what : wrong) {
            Press.dueThrow("told(" + what + ")", "IllegalArgumentException", () -> p.x.told(what));
        }
    }
}
