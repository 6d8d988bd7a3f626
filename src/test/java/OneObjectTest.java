/**
 * One object that reads text behind text: each of its answers is that of a new object, whatever was read, lowered,
 * improved, too much or faulty before.
 */
public final class OneObjectTest {
    private static final String ROWS = rows();
    private static final String DEFS = defs();
    private static final String TESTS = "int a,b,c;read a;b=a&&c||a&&3;c=1&&(b||2)&&a;print c||b;if(a&&b||c)print 1;else print 2;";
    private static final String LOOPS = "int i,j;while(i<3){if(i==2)break;j=0;do{j=j+1;if(j==1)next;print i*j;}while(j<3);i=i+1;next;}";
    private static final String WAYS = "int a,b;read a;if(a)b=4;else b=5;print b+1;b=a;while(b<4)b=b+1;print b;";
    private static final String SMALL = "print 7;";

    public static void main(String[] args) {
        goodOnes();
        faultsBetween();
        tooMuchBetween();
        nothingStaysOfAFault();
        limitsBeginAnew();
        fullTapesOneBehindTheOther();
        theSameTextAgain();
        lookingChangesNothing();
        twoInTurn();
        Press.end("OneObjectTest");
    }

    private static String rows() {
        StringBuilder text = new StringBuilder();
        for (int k = 0; k < 8; k++) {
            text.append("row r" + k + "[" + (k + 1) + "];");
        }
        return text + "r7[7]=3;r0[0]=4;print r7[7]-r0[0];print r6[7];";
    }

    private static String defs() {
        StringBuilder text = new StringBuilder("def d0(a,b,c,d,e,f){return a-f;}");
        for (int k = 1; k < 15; k++) {
            text.append("def d" + k + "(x){return x+" + k + ";}");
        }
        return text + "print d0(d1(1),2,3,4,5,d14(6));";
    }

    private static void sameAsNew(Press p, String text) {
        Press fresh = new Press().input(3, 0, 2);
        Press.dueText("all answers of " + text, ReferenceTest.whole(p, text), ReferenceTest.whole(fresh, text));
    }

    private static void goodOnes() {
        String[] texts = {TESTS, LOOPS, WAYS, SMALL, "", WAYS, TESTS, SMALL, LOOPS, TESTS};
        Press p = new Press().input(3, 0, 2);
        for (String text : texts) {
            sameAsNew(p, text);
        }
        Press q = new Press().input(3, 0, 2);
        String[] large = {ROWS, SMALL, ROWS, LOOPS, ROWS};
        for (String text : large) {
            sameAsNew(q, text);
        }
        Press r = new Press().input(3, 0, 2);
        String[] calls = {DEFS, SMALL, WAYS};
        for (String text : calls) {
            sameAsNew(r, text);
        }
    }

    private static void faultsBetween() {
        String[] faulty = {"def f(x){while(1){break;next;return f0(1+(2*", "while(1){do{break;next;if(1){}else{{{(", "{{{{{{{{print -(!(~(1",
            "int a,b;row r[0];print a&&b;", "break;", "def f(a,b){}f(1,(2&&(3||", "#", "print 1"};
        String[] texts = {TESTS, LOOPS, WAYS, SMALL, "def f(x){return x;}f(1);f(2);print f(3);", "row r[3];r[2]=1;print r[2];"};
        for (int k = 0; k < faulty.length; k++) {
            Press p = new Press().input(3, 0, 2);
            for (String text : texts) {
                sameAsNew(p, faulty[k]);
                sameAsNew(p, text);
            }
        }
    }

    private static void tooMuchBetween() {
        StringBuilder doubled = new StringBuilder("def f0(x){return x+1;}");
        for (int k = 1; k < 10; k++) {
            doubled.append("def f" + k + "(x){return f" + (k - 1) + "(x)+f" + (k - 1) + "(1&&x);}");
        }
        String tooMuch = doubled + "print 1+f9(2);";
        String calls = "def f(x){if(x)return x;return 2;}def g(x,y){return f(x)+f(y);}print g(1,0);print 3-g(0,g(4,5));";
        Press p = new Press().input(3, 0, 2);
        String[] texts = {tooMuch, calls, tooMuch, calls, TESTS};
        for (String text : texts) {
            sameAsNew(p, text);
        }
    }

    /** The names, loops, defs and brackets of a text with a fault are not those of the next one. */
    private static void nothingStaysOfAFault() {
        String[] faulty = {"int a;row r[1];def f(x){int b;while(1){do{if(1){print(((", "def f(x){", "while(1){", "do{", "{{{{{{{{{{{{{{{{{{{{{{{{{",
            "print ((((((((((((((((((((((((((", "def f(a,b){while(1)return", "while(1)while(1)break", "if(1){}else if(1)",
            "int a;row r[1];def f(x){int b;}print c;", "int a;row r[1];def f(x){int b;while(1){break;}}print a"};
        for (String text : faulty) {
            Press p = new Press();
            Press.due("a fault", p.read(text) < 0 ? 1 : 0, 1);
            next(p, "break;", -3, 0);
            next(p, "next;", -3, 0);
            next(p, "return 1;", -3, 0);
            next(p, "print a;", -3, 6);
            next(p, "print b;", -3, 6);
            next(p, "print x;", -3, 6);
            next(p, "print r[0];", -3, 6);
            next(p, "f(1);", -3, 0);
            next(p, "int a,b,x,r,f;", 0, -1);
            next(p, "{".repeat(24) + "}".repeat(24), 24, -1);
            next(p, "{".repeat(25) + "}".repeat(25), -5, 24);
            next(p, "def f(){}f();", 1, -1);
            next(p, "print a;", -3, 6);
        }
    }

    private static void next(Press p, String text, int read, int place) {
        Press.due("read() of " + text, p.read(text), read);
        Press.due("place() of " + text, p.x.place(), place);
    }

    /** Rows, defs and lists are counted in each text alone. */
    private static void limitsBeginAnew() {
        StringBuilder rows = new StringBuilder();
        StringBuilder defs = new StringBuilder();
        for (char name = 'a'; name < 'a' + 15; name++) {
            rows.append(name < 'a' + 8 ? "row " + name + "[9];" : "");
            defs.append("def ").append(name).append("(){}");
        }
        Press p = new Press();
        for (int times = 0; times < 5; times++) {
            next(p, rows.toString(), 0, -1);
            next(p, rows + "row z[1];", -6, rows.length() + 4);
        }
        Press q = new Press();
        for (int times = 0; times < 5; times++) {
            next(q, defs.toString(), 0, -1);
            next(q, defs + "def z(){}", -6, defs.length() + 4);
        }
        Press r = new Press();
        for (int times = 0; times < 5; times++) {
            next(r, "def z(a,b,c,d,e,f){}z(1,2,3,4,5,6);", 1, -1);
            next(r, "def z(){}z();", 1, -1);
            next(r, "def z(a){}z(1);", 1, -1);
            next(r, "def z(a){}z(1,2);", -3, 10);
            next(r, "def z(a,b,c,d,e,f,g){}", -6, 18);
        }
    }

    /** Nothing is kept of a text that filled the tape. */
    private static void fullTapesOneBehindTheOther() {
        StringBuilder names = new StringBuilder("{int " + String.join(",", Press.names(20)) + ";");
        for (String name : Press.names(20)) {
            names.append(name).append("=").append(name.charAt(0) - 'a' + 1).append(";");
        }
        names.append("print a+b*c-d+e*f-g*h;print i*j*k-l+m-n*o+p-q*r+s*t;}print 1;");
        String want = "0: -23 871 1";
        String[] full = {"{int " + "a,".repeat(1490) + "a;}", "print 1;".repeat(374) + "print 1", "int " + "a,".repeat(1490) + "a;",
            "{}".repeat(1500), "print " + "1&&".repeat(996) + "1", "print " + "-1+".repeat(996) + "1", "int a;" + "a=1;".repeat(748)};
        for (String text : full) {
            Press p = new Press();
            p.read(text);
            Press.due("read() behind " + text.substring(0, 20), p.read(names.toString()), 25);
            Press.dueText("run behind it", p.shown(0), want);
            Press.due("lower() behind it", p.x.lower() > 0 ? 1 : 0, 1);
            Press.dueText("run of the code", p.shown(1), want);
            p.x.improve();
            Press.dueText("run of the improved code", p.shown(3), want);
            Press.due("a third text", p.read("int a;a=5;{int b;b=6;print a*b;}"), 5);
            Press.dueText("run of the third", p.shown(0), "0: 30");
        }
    }

    /** Lowered and improved again, a text has the same code, rounds and colours. */
    private static void theSameTextAgain() {
        String[] texts = {TESTS, LOOPS, WAYS, SMALL};
        for (String text : texts) {
            Press p = Press.improved(text);
            String code = p.listing(false);
            String better = p.listing(true);
            int rounds = p.x.told(7);
            int colours = p.x.told(6);
            for (int times = 0; times < 3; times++) {
                p.x.lower();
                Press.dueText("code again", p.listing(false), code);
                p.x.improve();
                p.x.improve();
                Press.dueText("improved code again", p.listing(true), better);
                Press.due("rounds again", p.x.told(7), rounds);
                Press.due("colours again", p.x.told(6), colours);
            }
        }
    }

    /** What is known and live of the code is the same before improve() and behind it. */
    private static void lookingChangesNothing() {
        String[] texts = {TESTS, LOOPS, WAYS};
        for (String text : texts) {
            Press p = Press.of(text);
            p.x.lower();
            String before = looks(p);
            int count = p.x.improve();
            Press.dueText("known and live behind improve()", looks(p), before);
            Press.due("improve() again", p.x.improve(), count);
            Press.dueText("known and live behind improve() again", looks(p), before);
            Press q = Press.improved(text);
            Press.dueText("known and live looked at only behind it", looks(q), before);
            Press.dueText("the improved code", q.listing(true), p.listing(true));
        }
        knownBeforeAndBehindImprove();
        Press p = Press.of(WAYS);
        p.x.lower();
        looks(p);
        p.read(LOOPS);
        p.x.lower();
        Press q = Press.of(LOOPS);
        q.x.lower();
        Press.dueText("known and live of a new text", looks(p), looks(q));
    }

    /** With no more calls than one object has, so that all are of the same one. */
    private static void knownBeforeAndBehindImprove() {
        String[] texts = {WAYS, LOOPS, "int a,b;a=1;if(a)b=2;else b=3;a=b*b;while(a<9){b=b-b;a=a+1;}print b;"};
        for (String text : texts) {
            Press p = Press.of(text);
            int n = p.x.lower();
            String before = ofInts(p, n);
            p.x.improve();
            Press.dueText("known of the ints behind improve() of " + text, ofInts(p, n), before);
        }
    }

    private static String ofInts(Press p, int n) {
        StringBuilder out = new StringBuilder();
        for (int i = 0; i < n; i++) {
            for (int r = 0; r < 2; r++) {
                out.append(p.x.isKnown(i, r) ? "" + p.x.known(i, r) : "-").append(' ');
            }
        }
        return out.toString();
    }

    /** All memory is the class's own: what one object does changes nothing of another one. */
    private static void twoInTurn() {
        Press one = new Press().feed("int a;read a;");
        Press two = new Press().feed("row r[2];print r[0]+5;");
        Press.due("input of the one", one.x.input(8), 1);
        Press.due("input of the other", two.x.input(9), 1);
        Press.due("read() of the one", one.feed("print a*2;").x.read(), 2);
        Press.due("read() of the other", two.feed("#").x.read(), -1);
        Press.due("place() of the one", one.x.place(), -1);
        Press.due("place() of the other", two.x.place(), 22);
        Press.due("lower() of the one", one.x.lower(), 5);
        Press.dueThrow("lower() of the other", "IllegalStateException", () -> two.x.lower());
        Press.due("read() of the other again", two.read("print 3-4;"), 1);
        Press.due("lower() of the other again", two.x.lower(), 3);
        Press.due("improve() of the other", two.x.improve(), 2);
        Press.due("told(5) of the one", one.x.told(5), 0);
        Press.dueText("run of the one", one.run(1, 50), "0: 16 (1, 5)");
        Press.dueText("run of the other", two.run(2, 50), "0: -1 (0, 2)");
        Press.due("printed(0) of the one", one.x.printed(0), 16);
        Press.due("improve() of the one", one.x.improve(), 4);
        Press.dueText("improved code of the one", one.listing(true), "READ r0; * r2 r0 2; PRINT r2; HALT");
        Press.dueText("improved code of the other", two.listing(true), "PRINT -1; HALT");
        Press.due("clear() of the other", two.x.clear(), 1);
        Press.dueText("run of the one again", one.run(3, 50), "0: 16 (1, 4)");
        Press.due("colours of the one", one.x.told(6), 1);
        Press.due("colours of the other", two.x.told(6), 0);
    }

    private static String looks(Press p) {
        StringBuilder out = new StringBuilder();
        for (int i = 0; i < p.x.told(3); i++) {
            for (int r = 0; r < p.x.told(4); r++) {
                out.append(p.x.isKnown(i, r) ? "" + p.x.known(i, r) : "-").append(p.x.isLive(false, i, r) ? "* " : " ");
            }
        }
        return out.toString();
    }
}
