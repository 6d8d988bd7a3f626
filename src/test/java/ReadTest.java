/** Promises 3 and 4: read and place, with every fault. */
public final class ReadTest {
    public static void main(String[] args) {
        statementsCount();
        wordsThatCantBe();
        wordsThatDoNotFit();
        namesThatAreNotWanted();
        namesToldAlready();
        sizes();
        whatStandsOpen();
        whichFaultComesFirst();
        whatStaysAndWhatGoes();
        Press.end("ReadTest");
    }

    private static void ok(String text, int statements) {
        Press.ok(text, statements);
    }

    private static void fault(String text, int number, int place) {
        Press.fault(text, number, place);
    }

    private static void statementsCount() {
        ok("", 0);
        ok(" \n ", 0);
        ok("int a,b; row r[2]; def f(x){}", 0);
        ok("int a; a=1;", 1);
        ok("{}", 1);
        ok("{{}{}}", 3);
        ok("int a; a=1; int b;", 2);
        ok("int a; a=1; int b,c,d;", 2);
        ok("int a; {int b;}", 2);
        ok("def f(){{}int a;a=1;return a;}", 4);
        ok("def f(){} f();", 1);
        ok("int a; if(a)a=1;else a=2;", 3);
        ok("int a; if(a){a=1;}else{a=2;}", 5);
        ok("int a; while(a)a=1;", 2);
        ok("int a; do a=1; while(a);", 2);
        ok("int a; do{}while(a);", 2);
        ok("while(1){break;next;}", 4);
        ok("int a; read a; print a;", 2);
        ok("row r[1]; r[0]=1;", 1);
        ok("int a; if(1)if(2)a=1;else a=2;else a=3;", 5);
        ok("print 1;print(1);print-1;print!1;print~1;", 5);
        ok("def f(){}if((1)+1){}while(f()+1){}do{}while((1)+f());print(1)+1;", 7);
        ok("row r[1];int a;def f(){return (1)+1;}r[(1)+1]=(1)+1;a=(1)+1;", 3);
        ok("int a;a=1;print a;int a;print a;", 4);
    }

    private static void wordsThatCantBe() {
        fault("\"", 1, 0);
        fault("print 1; #", 1, 9);
        fault("print 1 ? 2;", 1, 8);
        fault("int A;", 1, 4);
        fault("int aB;", 1, 5);
        fault("int abcdefghi;", 1, 4);
        ok("int abcdefgh;", 0);
        ok("int a2345678;", 0);
        fault("int a23456789;", 1, 4);
        fault("int _a;", 1, 4);
        ok("print 2147483647;", 1);
        ok("print 0000000000002147483647;", 1);
        fault("print 2147483648;", 1, 6);
        fault("print -2147483648;", 1, 7);
        fault("print 99999999999999999999999999999999;", 1, 6);
        fault("print 1.5;", 1, 7);
        fault("print 1 @", 1, 8);
        fault("whilewhile", 1, 0);
    }

    private static void wordsThatDoNotFit() {
        fault("print", 2, 5);
        fault("print ", 2, 6);
        fault("print 1", 2, 7);
        fault("print ;", 2, 6);
        fault("print 1 2;", 2, 8);
        fault("print 1+;", 2, 8);
        fault("print +1;", 2, 6);
        fault("print (1;", 2, 8);
        fault("print 1);", 2, 7);
        fault("print (1];", 2, 8);
        fault("print (1,2);", 2, 8);
        fault("row r[1];print r[1,2];", 2, 18);
        fault("row r[1];print r[1);", 2, 18);
        fault("row r[1];print r[];", 2, 17);
        fault("def f(){}print f(1;", 2, 18);
        fault("def f(){}print f(1];", 2, 18);
        fault("def f(){}print f(,1);", 2, 17);
        fault("def f(x){}print f(1,);", 2, 20);
        fault("def f(){}f()+1;", 2, 12);
        fault("def f(){}f(", 2, 11);
        fault("int a;a", 2, 7);
        fault("int a;a;", 2, 7);
        fault("int a;a{}", 2, 7);
        fault("int a;a+1;", 2, 7);
        fault("int a;a==1;", 2, 7);
        fault("int a;a=;", 2, 8);
        fault("int a;a=1", 2, 9);
        fault("int a;a<<=1;", 2, 7);
        fault("int a;a=1===1;", 2, 11);
        fault("int a;a=1&&&1;", 2, 11);
        fault("int a;a=1|||1;", 2, 11);
        fault("int a;a=12a;", 2, 10);
        fault("int;", 2, 3);
        fault("int a,;", 2, 6);
        fault("int {}", 2, 4);
        fault("int a,{}", 2, 6);
        fault("row {}", 2, 4);
        fault("row r[{}", 2, 6);
        fault("def {}", 2, 4);
        fault("def f({}", 2, 6);
        fault("read;", 2, 4);
        fault("print 1;int {}", 2, 12);
        fault("int a b;", 2, 6);
        fault("int 1;", 2, 4);
        fault("int if;", 2, 4);
        fault("row r;", 2, 5);
        fault("row r[];", 2, 6);
        fault("row r[a];", 2, 6);
        fault("row r[1;", 2, 7);
        fault("row r[1]", 2, 8);
        fault("row r[1],q[1];", 2, 8);
        fault("row 1[1];", 2, 4);
        fault("def f;", 2, 5);
        fault("def (){}", 2, 4);
        fault("def f(1){}", 2, 6);
        fault("def f(a,){}", 2, 8);
        fault("def f(a b){}", 2, 8);
        fault("def f()print 1;", 2, 7);
        fault("def f(){", 2, 8);
        fault("def f(){}}", 2, 9);
        fault("def f(){def g(){}}", 2, 8);
        fault("def f(){row r[1];}", 2, 8);
        fault("print 1;def f(){}", 2, 8);
        fault("print 1;row r[1];", 2, 8);
        fault("{", 2, 1);
        fault("}", 2, 0);
        fault(";", 2, 0);
        fault("{;}", 2, 1);
        fault("1;", 2, 0);
        fault("else print 1;", 2, 0);
        fault("if 1 print 1;", 2, 3);
        fault("if(1)", 2, 5);
        fault("if()print 1;", 2, 3);
        fault("if(1)print 1;else", 2, 17);
        fault("if(1)int a;", 2, 5);
        fault("if(1)print 1;else int a;", 2, 18);
        fault("while(1)int a;", 2, 8);
        fault("do int a;while(1);", 2, 3);
        fault("while 1 print 1;", 2, 6);
        fault("do print 1;", 2, 11);
        fault("do print 1;print 2;", 2, 11);
        fault("do print 1;while(1)", 2, 19);
        fault("do print 1;while 1;", 2, 17);
        fault("while(1)break", 2, 13);
        fault("while(1)next 1;", 2, 13);
        fault("def f(){return;}", 2, 14);
        fault("read 1;", 2, 5);
        fault("int a;read a+1;", 2, 12);
        fault("row r[2];read r[0];", 2, 15);
        fault("row r[2];r[0];", 2, 13);
        fault("row r[2];r[0=1;", 2, 12);
    }

    private static void namesThatAreNotWanted() {
        fault("a=1;", 3, 0);
        fault("print a;", 3, 6);
        fault("read a;", 3, 5);
        fault("a[0]=1;", 3, 0);
        fault("print a[0];", 3, 6);
        fault("f();", 3, 0);
        fault("print f();", 3, 6);
        fault("int a;a[0]=1;", 3, 6);
        fault("int a;print a[0];", 3, 12);
        fault("int a;a();", 3, 6);
        fault("int a;print a();", 3, 12);
        fault("row r[1];r=1;", 3, 9);
        fault("row r[1];print r;", 3, 15);
        fault("row r[1];read r;", 3, 14);
        fault("row r[1];r();", 3, 9);
        fault("def f(){}f=1;", 3, 9);
        fault("def f(){}print f;", 3, 15);
        fault("def f(){}print f[0];", 3, 15);
        fault("def f(){}read f;", 3, 14);
        fault("def f(){}f(1);", 3, 9);
        fault("def f(a){}f();", 3, 10);
        fault("def f(a){}print f(1,2);", 3, 16);
        fault("def f(a){}print 1+f(f(1,2));", 3, 20);
        fault("def f(a,b){}print f(1,f(2,3))+f(4);", 3, 30);
        ok("def f(a,b){}print f(1,f(2,3))+f(4,5);", 1);
        fault("def f(){f();}", 3, 8);
        fault("def f(){g();}def g(){}", 3, 8);
        ok("def g(){}def f(){g();}", 1);
        fault("def f(){print a;}int a;", 3, 14);
        ok("int a;def f(){print a;}", 1);
        fault("def f(){print a;}int b;{int a;f();}", 3, 14);
        fault("int b;{int a;}print a;", 3, 20);
        fault("def f(a){}print a;", 3, 16);
        fault("print 1;print a;int a;", 3, 14);
        fault("print 1;{a=1;int a;}", 3, 9);
        fault("def f(){}print 1;{int f;f();}", 3, 24);
        fault("row r[1];print 1;{int r;r[0]=1;}", 3, 24);
        ok("row r[1];print 1;{int r;r=1;}r[0]=1;", 5);
        fault("break;", 3, 0);
        fault("next;", 3, 0);
        fault("return 1;", 3, 0);
        fault("while(1){}break;", 3, 10);
        fault("do{}while(1);next;", 3, 13);
        fault("def f(){break;}while(1)f();", 3, 8);
        fault("def f(){while(1){}next;}", 3, 18);
        fault("while(1)return 1;", 3, 8);
        ok("while(1){if(1){break;}else next;}", 6);
        ok("do break; while(1);", 2);
        ok("def f(){while(1)return 1;}", 2);
        ok("while(1){while(1)break;break;}", 5);
        fault("while(1){while(1)break;}break;", 3, 24);
    }

    private static void namesToldAlready() {
        fault("int a,a;", 4, 6);
        fault("int a;int a;", 4, 10);
        fault("int a;row a[1];", 4, 10);
        fault("int a;def a(){}", 4, 10);
        fault("row a[1];int a;", 4, 13);
        fault("row a[1];row a[1];", 4, 13);
        fault("def a(){}int a;", 4, 13);
        fault("def a(){}row a[1];", 4, 13);
        fault("def a(){}def a(){}", 4, 13);
        fault("def f(a,b,a){}", 4, 10);
        fault("def f(a){int a;}", 4, 13);
        ok("def f(a){{int a;}}", 2);
        ok("def f(f){f=1;}", 1);
        ok("int a;def f(a){}", 0);
        fault("{int a;int a;}", 4, 11);
        fault("{int a,a;}", 4, 7);
        ok("{int a;{int a;}}", 4);
        ok("{int a;}{int a;}", 4);
        ok("int a;{int a;}", 2);
        ok("int a;a=1;int a;a=2;", 3);
        fault("int a;a=1;int a;a=2;int a;", 4, 24);
        fault("print 1;int a;{int a;}int b;int a;", 4, 32);
        ok("def f(){}print 1;int f;f=1;", 3);
    }

    private static String many(int n, String before, String form, String behind) {
        StringBuilder text = new StringBuilder(before);
        for (int k = 0; k < n; k++) {
            text.append(form.replace("#", "" + k));
        }
        return text.append(behind).toString();
    }

    private static void sizes() {
        ok("row r[1];", 0);
        ok("row r[100];", 0);
        fault("row r[0];", 6, 6);
        fault("row r[101];", 6, 6);
        fault("row r[2147483647];", 6, 6);
        ok(many(8, "", "row r#[1];", ""), 0);
        fault(many(9, "", "row r#[1];", ""), 6, 84);
        fault(many(10, "", "row r#[1];", ""), 6, 84);
        fault(many(8, "", "row r#[1];", "row r1[0];"), 4, 84);
        ok("def f(a,b,c,d,e,g){}", 0);
        fault("def f(a,b,c,d,e,g,h){}", 6, 18);
        fault("def f(a,b,c,d,e,g,a){}", 4, 18);
        fault("def f(a,b,c,d,e,g,h,i){}", 6, 18);
        ok(many(15, "", "def f#(){}", ""), 0);
        fault(many(16, "", "def f#(){}", ""), 6, 15 * 10 + 5 + 4);
        fault(many(15, "", "def f#(){}", "def f3(){}"), 4, 15 * 10 + 5 + 4);
        fault(many(17, "", "def f#(){}", ""), 6, 15 * 10 + 5 + 4);
    }

    private static void opens(String each, String inner, String close, int of) {
        int most = 24 / of;
        String text = each.repeat(most) + inner + close.repeat(most);
        Press.due("24 open: " + text, new Press().read(text) > 0 ? 1 : 0, 1);
    }

    private static void whatStandsOpen() {
        opens("{", "", "}", 1);
        fault("{".repeat(25), 5, 24);
        fault("{".repeat(25) + "}".repeat(25), 5, 24);
        fault("{".repeat(24), 2, 24);
        ok("{}".repeat(30), 30);
        String[] signs = {"(", "-", "!", "~"};
        for (String sign : signs) {
            String close = sign.equals("(") ? ")" : "";
            ok("print " + sign.repeat(24) + "1" + close.repeat(24) + ";", 1);
            fault("print " + sign.repeat(25) + "1" + close.repeat(25) + ";", 5, 30);
        }
        ok("print " + "-1+".repeat(40) + "-1;", 1);
        ok("print 1" + "-1".repeat(40) + ";", 1);
        ok("print " + "-(".repeat(12) + "1" + ")".repeat(12) + ";", 1);
        fault("print " + "-(".repeat(12) + "-1" + ")".repeat(12) + ";", 5, 30);
        fault("row r[1];" + "{".repeat(24) + "r[0]=1;", 5, 34);
        ok("row r[1];" + "{".repeat(23) + "r[0]=1;" + "}".repeat(23), 24);
        ok("row r[1];print " + "r[".repeat(24) + "0" + "]".repeat(24) + ";", 1);
        fault("row r[1];print " + "r[".repeat(25) + "0" + "]".repeat(25) + ";", 5, 15 + 49);
        ok("def f(x){}print " + "f(".repeat(24) + "0" + ")".repeat(24) + ";", 1);
        fault("def f(x){}print " + "f(".repeat(25) + "0" + ")".repeat(25) + ";", 5, 16 + 49);
        ok("def f(x){}" + "f(".repeat(24) + "0" + ")".repeat(24) + ";", 1);
        fault("def f(x){}" + "f(".repeat(25) + "0" + ")".repeat(25) + ";", 5, 10 + 49);
        whatStandsOpenInStatements();
    }

    private static void whatStandsOpenInStatements() {
        // The 24th if has its bracket as the 25th that stands open.
        fault("if(1)".repeat(24) + "{}", 5, 23 * 5 + 2);
        fault("if(1)".repeat(23) + "if(1){}", 5, 23 * 5 + 2);
        ok("if(1)".repeat(23) + "print 1;", 24);
        ok("while(1)".repeat(23) + "{}", 24);
        fault("while(1)".repeat(24) + "{}", 5, 23 * 8 + 5);
        ok("do ".repeat(23) + "{}" + "while(1);".repeat(23), 24);
        ok("do ".repeat(24) + "print 1;" + "while(1);".repeat(24), 25);
        fault("do ".repeat(25) + "print 1;" + "while(1);".repeat(25), 5, 72);
        // Each else stands open within its if: two for each.
        ok("if(1){}else ".repeat(11) + "print 1;", 23);
        ok("if(1){}else ".repeat(12) + "print 1;", 25);
        fault("if(1){}else ".repeat(12) + "{}", 5, 144);
        fault("if(1){}else ".repeat(13) + "print 1;", 5, 144);
        ok("if(1)if(1){}else{}".repeat(20), 80);
        ok("def f(){" + "{".repeat(23) + "}".repeat(24), 23);
        fault("def f(){" + "{".repeat(24) + "}".repeat(25), 5, 31);
        // The while of a do is none, but its bracket is one.
        ok("{".repeat(22) + "do{}while((1));" + "}".repeat(22), 24);
        fault("{".repeat(22) + "do{}while(((1)));" + "}".repeat(22), 5, 22 + 11);
        // A word that does not fit is no opening one.
        fault("{".repeat(24) + "(", 2, 24);
        fault("{".repeat(24) + "print )", 2, 30);
        fault("{".repeat(24) + "print (", 5, 30);
        fault("{".repeat(24) + "#", 1, 24);
    }

    private static void whichFaultComesFirst() {
        fault("print a; #", 1, 9);
        fault("print a; print 1", 2, 16);
        fault("print a;" + "{".repeat(25), 5, 32);
        fault("print ; #", 2, 6);
        fault("int a,a;b=1;", 4, 6);
        fault("b=1;{int a,a;}", 3, 0);
        fault("row r[0];row r[1];", 6, 6);
        fault("row r[1];row r[0];", 4, 13);
        fault("def f(a){print b;return f(1);}break;", 3, 15);
        // The NAME of a call stands before what is within.
        fault("def f(a){}f(b,1);", 3, 10);
        fault("def f(a){}f(b);", 3, 12);
        fault("row r[1];r[x]=r;", 3, 11);
    }

    private static void whatStaysAndWhatGoes() {
        Press p = Press.of("print 5;");
        p.x.lower();
        p.x.improve();
        int[] before = {p.x.told(3), p.x.told(4), p.x.told(5), p.x.told(6), p.x.told(7)};
        Press.due("a fault", p.read("int a; print"), -2);
        Press.due("its place", p.x.place(), 12);
        for (int what = 3; what <= 7; what++) {
            Press.due("told(" + what + ") stays", p.x.told(what), before[what - 3]);
        }
        Press.dueText("the text stays", p.shown(0), "0: 5");
        Press.dueText("the code stays", p.shown(1), "0: 5");
        Press.dueText("the improved code stays", p.shown(3), "0: 5");
        Press.due("the tape is empty behind a fault", p.x.feed(' ', 1), 1);
        Press.due("lower() behind a fault", p.x.lower(), 2);
        Press.due("a fault again", p.read("row r[0]; int b; "), -6);
        Press.due("the place of the tape with its space", p.x.place(), 7);
        Press.dueText("the text stays again", p.shown(0), "0: 5");
        Press.due("a good one", p.read("print 6; print 7;"), 2);
        Press.due("no place", p.x.place(), -1);
        for (int what = 3; what <= 7; what++) {
            Press.due("told(" + what + ") is gone", p.x.told(what), 0);
        }
        Press.dueThrow("run(1) is gone", "IllegalStateException", () -> p.x.run(1, 9));
        Press.dueThrow("code() is gone", "IllegalStateException", () -> p.x.code(false, 0, 0));
        Press.dueThrow("improve() is gone", "IllegalStateException", () -> p.x.improve());
        Press.due("the latest run stays told", p.x.printed(0), 5);
        Press.dueText("the new text", p.shown(0), "0: 6 7");
    }
}
