/** Promises 12 to 16 as the text runs: input, clear, run(0), printed, told. */
public final class RunTextTest {
    public static void main(String[] args) {
        numbers();
        order();
        names();
        loops();
        defs();
        ends();
        fuel();
        input();
        prints();
        wrongCalls();
        Press.end("RunTextTest");
    }

    private static void shows(String text, String want, int... input) {
        Press.shows(text, want, input);
    }

    /** The value of an expr, by constants and with every number read, so that nothing is known before. */
    private static void is(String expr, int a, int b, int want) {
        shows("int a,b;a=" + Press.number(a) + ";b=" + Press.number(b) + ";print " + expr + ";", "0: " + want);
        shows("int a,b;read a;read b;print " + expr + ";", "0: " + want, a, b);
    }

    private static void numbers() {
        int least = Integer.MIN_VALUE;
        int most = Integer.MAX_VALUE;
        is("a+b", most, 1, least);
        is("a-b", least, 1, most);
        is("a*b", 65536, 65536, 0);
        is("a*b", 123456789, 987654321, 123456789 * 987654321);
        is("a/b", 7, 2, 3);
        is("a/b", -7, 2, -3);
        is("a/b", 7, -2, -3);
        is("a/b", -7, -2, 3);
        is("a/b", least, -1, least);
        is("a%b", least, -1, 0);
        is("a%b", 7, 3, 1);
        is("a%b", -7, 3, -1);
        is("a%b", 7, -3, 1);
        is("a%b", -7, -3, -1);
        is("a&b", 12, 10, 8);
        is("a|b", 12, 10, 14);
        is("a^b", 12, 10, 6);
        is("a<<b", 1, 31, least);
        is("a<<b", 1, 32, 1);
        is("a<<b", 1, 33, 2);
        is("a<<b", 1, -1, least);
        is("a>>b", -8, 1, -4);
        is("a>>b", -1, 31, -1);
        is("a>>b", most, 30, 1);
        is("a>>b", 5, 32, 5);
        is("a>>b", least, -1, -1);
        int[][] pairs = {{1, 1}, {1, 2}, {2, 1}, {-1, 1}, {least, most}, {most, least}};
        for (int[] p : pairs) {
            is("a==b", p[0], p[1], p[0] == p[1] ? 1 : 0);
            is("a!=b", p[0], p[1], p[0] != p[1] ? 1 : 0);
            is("a<b", p[0], p[1], p[0] < p[1] ? 1 : 0);
            is("a<=b", p[0], p[1], p[0] <= p[1] ? 1 : 0);
            is("a>b", p[0], p[1], p[0] > p[1] ? 1 : 0);
            is("a>=b", p[0], p[1], p[0] >= p[1] ? 1 : 0);
        }
        is("-a", least, 0, least);
        is("-a", 5, 0, -5);
        is("!a", 5, 0, 0);
        is("!a", 0, 0, 1);
        is("~a", 0, 0, -1);
        is("~a", most, 0, least);
        is("a&&b", 5, -3, 1);
        is("a&&b", 5, 0, 0);
        is("a&&b", 0, 5, 0);
        is("a||b", 0, 0, 0);
        is("a||b", 0, 7, 1);
        is("a||b", 7, 0, 1);
    }

    private static void order() {
        is("a+b*2", 1, 3, 7);
        is("(a+b)*2", 1, 3, 8);
        is("a-b-1", 10, 3, 6);
        is("a/b/2", 40, 4, 5);
        is("a-b+1", 10, 3, 8);
        is("a*b%4", 3, 6, 2);
        is("a<<b+1", 1, 2, 8);
        is("a<b<<2", 3, 1, 1);
        is("a<b==1", 1, 2, 1);
        is("a&b==2", 1, 2, 1);
        is("a^b&1", 4, 3, 5);
        is("a|b^1", 4, 5, 4);
        is("a&&b|0", 2, 4, 1);
        is("a||b&&0", 1, 1, 1);
        is("(a||b)&&0", 1, 1, 0);
        is("-a*b", 2, 3, -6);
        is("!a+b", 0, 3, 4);
        is("~a&b", 1, 7, 6);
        is("- -a", 4, 0, 4);
        is("-!~a", -1, 0, -1);
        is("a>b>-1", 5, 3, 1);
        is("a>>1<<b", 9, 2, 16);
        shows("print 0&&1/0;print 1||1/0;print 1&&2||1/0;print 0||3&&0;", "0: 0 1 1 0");
        shows("def t(x){print x;return x;}print t(1)+t(2)*t(3);print t(0)&&t(4);print t(5)||t(6);print t(7)&&t(8);",
            "0: 1 2 3 7 0 0 5 1 7 8 1");
        shows("def t(x){print x;return x;}row r[2];r[t(1)]=t(2);print r[1];", "0: 1 2 2");
        shows("def t(x){print x;return x;}row r[2];r[t(9)]=t(2);print r[1];", "7: 9 2");
        shows("def t(x){print x;return x;}def u(a,b,c){return a*100+b*10+c;}print u(t(1),t(2),t(3));", "0: 1 2 3 123");
    }

    private static void names() {
        shows("int a;print a;a=1;int a;print a;a=2;{int a;a=3;print a;}print a;", "0: 0 0 3 2");
        shows("int a;a=1;{print a;int a;print a;a=5;}print a;", "0: 1 0 1");
        shows("int i;while(i<3){int n;print n;n=7;i=i+1;}", "0: 0 0 0");
        shows("int a;def f(){return a;}def g(a){a=a+1;return f()+a;}a=10;print g(1);", "0: 12");
        shows("int a;def f(){a=a+1;}f();f();print a;", "0: 2");
        shows("int a;def f(){return a;}a=3;int a;a=5;print f();print a;", "0: 3 5");
        shows("row r[3];print r[2];r[0]=1;r[2]=r[0]+1;print r[0];print r[1];print r[2];", "0: 0 1 0 2");
        shows("row r[1];row q[1];r[0]=1;q[0]=2;print r[0];print q[0];", "0: 1 2");
        shows("row r[100];int i;while(i<100){r[i]=i*i;i=i+1;}print r[99];print r[i-50];", "0: 9801 2500");
    }

    private static void loops() {
        shows("int i;while(i<3){i=i+1;if(i==2)next;print i;}", "0: 1 3");
        shows("int i;while(1){i=i+1;if(i==3)break;print i;}print 9;", "0: 1 2 9");
        shows("int i;do{i=i+1;if(i==2)next;print i;}while(i<4);", "0: 1 3 4");
        shows("int i;do{i=i+1;if(i==2)break;print i;}while(i<4);print i;", "0: 1 2");
        shows("int i;do print i;while(0);", "0: 0");
        shows("int i,j;while(i<3){i=i+1;j=0;while(1){j=j+1;if(j>i)break;if(j==2)next;print i*10+j;}}", "0: 11 21 31 33");
        shows("int i;if(i)print 1;else if(i==0)print 2;else print 3;", "0: 2");
        shows("if(1)if(0)print 1;else print 2;", "0: 2");
        shows("if(0)if(0)print 1;else print 2;", "0:");
        shows("int i;while(i<2)do{i=i+1;next;}while(0);print i;", "0: 2");
    }

    private static void defs() {
        shows("def f(){}print f();", "0: 0");
        shows("def f(x){if(x)return 5;}print f(1);print f(0);", "0: 5 0");
        shows("def f(){while(1){while(1)return 7;}}print f();", "0: 7");
        shows("def f(x){x=x+1;return x;}int a;a=4;print f(a);print a;", "0: 5 4");
        shows("def f(x){return x+1;}def g(x){return f(x)*f(x+1);}print g(f(1));", "0: 12");
        shows("def f(a,b,c,d,e,g){return a-b-c-d-e-g;}print f(1,2,3,4,5,6);", "0: -19");
        shows("def f(x){int y;y=y+x;return y;}print f(1)+f(2)+f(3);", "0: 6");
        shows("def f(x){return 1;print 3;}f(1);print f(2);", "0: 1");
        StringBuilder chain = new StringBuilder("def f0(x){return x+1;}");
        for (int k = 1; k < 15; k++) {
            chain.append("def f" + k + "(x){return f" + (k - 1) + "(x)+1;}");
        }
        shows(chain + "print f14(0);", "0: 15");
    }

    private static void ends() {
        shows("print 1;print 1/0;print 2;", "4: 1");
        shows("int a;print 1;a=5%a;print 2;", "4: 1");
        shows("int a;a=5/(a-0);", "4:");
        shows("row r[2];print r[2];", "7:");
        shows("row r[2];print r[-1];", "7:");
        shows("row r[2];r[2]=1;", "7:");
        shows("row r[2];r[-1]=1;", "7:");
        shows("row r[2];int a;a=r[5];print 1;", "7:");
        shows("row r[2];r[5]=1/0;", "4:");
        shows("int a;read a;print a;read a;print a;", "5: 3", 3);
        shows("int a;read a;", "5:");
        shows("row r[1];row q[100];r[0]=q[99];r[1]=q[99];", "7:");
    }

    private static void used(String text, int fuel) {
        Press p = Press.of(text);
        String all = p.run(0, 100000);
        Press.dueText("fuel of " + text, all.substring(all.indexOf('(')), "(0, " + fuel + ")");
        for (int less = 0; less < fuel; less++) {
            String short1 = p.run(0, less);
            Press.dueText(text + " with " + less, short1.charAt(0) + short1.substring(short1.indexOf('(')), "6(0, " + less + ")");
        }
        Press.dueText(text + " with just as much", p.run(0, fuel), all);
    }

    private static void fuel() {
        used("", 0);
        used("{}{{}}", 0);
        used("int a;{int b;}", 0);
        used("int a;a=1;", 1);
        used("print 1;int a;print a;", 2);
        used("if(0)print 1;", 1);
        used("if(1){print 1;}", 2);
        used("if(0)print 1;else print 2;", 2);
        used("while(0)print 1;", 2);
        used("int i;while(i<2)i=i+1;", 1 + 3 + 2);
        used("int i;do i=i+1;while(i<2);", 1 + 2 + 2);
        used("do{}while(0);", 2);
        used("while(1)break;", 3);
        used("int i;while(i<1){i=1;next;}", 1 + 2 + 2);
        used("do next;while(0);", 3);
        used("do break;while(1);", 2);
        used("def f(){}f();", 1);
        used("def f(){return 1;}print f()+f();", 3);
        used("def f(){int a;a=1;{return a;}}f();", 3);
        used("row r[1];r[0]=1;print r[0];", 2);
        used("print 1/0;", 1);
        StringBuilder ints = new StringBuilder("def f(){int n0");
        for (int k = 1; k < 400; k++) {
            ints.append(",n").append(Integer.toString(k, 36));
        }
        used(ints + ";}print f()" + "+f()".repeat(350) + ";", 1);
        Press p = Press.of("while(1){}");
        Press.dueText("a ring", p.run(0, 100000), "6: (0, 100000)");
        p.x.lower();
        Press.dueText("a ring of code", p.run(1, 100000), "6: (0, 100000)");
        Press q = Press.of("print 1;print 2;");
        Press.dueText("the second has no fuel", q.run(0, 1), "6: 1 (0, 1)");
        q.x.lower();
        Press.dueText("two instructions", q.run(1, 2), "6: 1 2 (0, 2)");
        Press.dueText("the HALT needs one", q.run(1, 3), "0: 1 2 (0, 3)");
        Press.dueText("no instruction", q.run(1, 0), "6: (0, 0)");
    }

    private static void input() {
        Press p = Press.of("int a;while(1){read a;print a;}");
        Press.due("input(4)", p.x.input(4), 1);
        Press.due("input(-5)", p.x.input(-5), 2);
        Press.dueText("it is read from the first on", p.run(0, 1000), "5: 4 -5 (2, 9)");
        Press.dueText("each run does", p.run(0, 1000), "5: 4 -5 (2, 9)");
        Press.dueText("what would be taken behind the fuel", p.run(0, 4), "6: 4 (1, 4)");
        Press.due("clear()", p.x.clear(), 2);
        Press.due("clear() again", p.x.clear(), 0);
        Press.due("told(1) is of the latest run", p.x.told(1), 1);
        Press.dueText("nothing is there", p.run(0, 1000), "5: (0, 3)");
        for (int k = 1; k <= 200; k++) {
            Press.due("input", p.x.input(k * 3), k);
        }
        Press.dueThrow("input 201", "IllegalStateException", () -> p.x.input(1));
        Press.dueThrow("input 201 again", "IllegalStateException", () -> p.x.input(1));
        Press.due("end of 200", p.x.run(0, 100000), 5);
        Press.due("200 were taken", p.x.told(1), 200);
        Press.due("200 were printed", p.x.told(0), 200);
        Press.due("the last", p.x.printed(199), 600);
        Press.due("clear() of 200", p.x.clear(), 200);
        Press.due("input behind clear()", p.x.input(Integer.MIN_VALUE), 1);
        Press.dueText("it is what is read", p.run(0, 100), "5: -2147483648 (1, 6)");
        Press.due("INPUT stays over read()", p.read("int a;read a;print a;"), 2);
        Press.dueText("it is read then", p.run(0, 100), "0: -2147483648 (1, 2)");
    }

    private static void prints() {
        Press p = Press.of("int i;while(i<N){i=i+1;print i;}".replace("N", "300"));
        Press.due("300 prints", p.x.run(0, 100000), 0);
        Press.due("how many", p.x.told(0), 300);
        Press.due("the first", p.x.printed(0), 1);
        Press.due("the last", p.x.printed(299), 300);
        Press.dueThrow("printed(300)", "IndexOutOfBoundsException", () -> p.x.printed(300));
        Press.dueThrow("printed(-1)", "IndexOutOfBoundsException", () -> p.x.printed(-1));
        Press q = Press.of("int i;while(i<N){i=i+1;print i;}".replace("N", "301"));
        q.x.lower();
        q.x.improve();
        for (int which = 0; which < 4; which++) {
            Press.due("301 prints, " + which, q.x.run(which, 100000), 8);
            Press.due("how many stay", q.x.told(0), 300);
            Press.due("the last one", q.x.printed(299), 300);
        }
        Press r = Press.of("int i;while(i<300){i=i+1;print i;}print 1/0;");
        Press.due("the expr comes before the print", r.x.run(0, 100000), 4);
        Press.due("another run, less printed", r.x.run(0, 5), 6);
        Press.due("its prints", r.x.told(0), 1);
        Press.dueThrow("what the run before printed is gone", "IndexOutOfBoundsException", () -> r.x.printed(1));
    }

    private static void wrongCalls() {
        Press p = Press.of("print 7;");
        p.x.run(0, 3);
        int[][] wrong = {{-1, 5}, {4, 5}, {0, -1}, {0, 100001}, {1, -1}, {3, 100001}, {Integer.MIN_VALUE, Integer.MAX_VALUE}};
        for (int[] w : wrong) {
            Press.dueThrow("run(" + w[0] + ", " + w[1] + ")", "IllegalArgumentException", () -> p.x.run(w[0], w[1]));
        }
        for (int which = 1; which < 4; which++) {
            int w = which;
            Press.dueThrow("run(" + w + ", 5)", "IllegalStateException", () -> p.x.run(w, 5));
        }
        Press.due("printed(0) is as it was", p.x.printed(0), 7);
        Press.due("told(0) is as it was", p.x.told(0), 1);
        Press.due("told(2) is as it was", p.x.told(2), 1);
        Press.due("run(0, 100000)", p.x.run(0, 100000), 0);
        Press.due("run(0, 0)", p.x.run(0, 0), 6);
        Press.due("told(0) behind it", p.x.told(0), 0);
        p.x.lower();
        Press.due("run(1, 100000)", p.x.run(1, 100000), 0);
        Press.dueThrow("run(2, 5)", "IllegalStateException", () -> p.x.run(2, 5));
        Press.dueThrow("run(3, 5)", "IllegalStateException", () -> p.x.run(3, 5));
        int[] whats = {-1, 8, Integer.MAX_VALUE, Integer.MIN_VALUE};
        for (int what : whats) {
            Press.dueThrow("told(" + what + ")", "IllegalArgumentException", () -> p.x.told(what));
        }
    }
}
