/**
 * The edges of "1 THE TEXT" and of promises 1 to 4, sentence by sentence, each on both of its sides: the TAPE, the
 * WORDS, and where each FAULT begins. The comment above a test is the document's sentence.
 */
public final class EdgesOfTextTest {
    public static void main(String[] args) {
        theTapeIsEmptyAtFirst();
        bytesPerFeed();
        bytesThatMayBe();
        aFullTape();
        aRefusedFeed();
        theTapeIsEmptyBehindRead();
        partsOfWords();
        lengthsOfNames();
        keysAreNoNames();
        largestNumber();
        longestSigns();
        bytesThatCantBe();
        anIntIsADeclOrNot();
        statementsOfIfElseWhileDo();
        lacksAtTheEnd();
        placesOfAFullTape();
        namesAndTheirKinds();
        lengthsOfLists();
        breakNextAndReturn();
        whereANameIsSeen();
        namesToldAlready();
        cellsOfARow();
        howManyRowsNamesDefs();
        firstPlaceThenLeastNumber();
        whatAFaultLeaves();
        Press.end("EdgesOfTextTest");
    }

    private static void ok(String text, int statements) {
        Press.ok(text, statements);
    }

    private static void fault(String text, int number, int place) {
        Press.fault(text, number, place);
    }

    /** An empty TAPE, nothing read, an empty INPUT. */
    private static void theTapeIsEmptyAtFirst() {
        for (int n = 1; n <= 8; n++) {
            Press.due("the first feed of " + n, new Counted().feed(0x2020202020202020L, n), n);
        }
        Counted x = new Counted();
        Press.due("place() of a new one", x.place(), WhilePress.NONE);
        Press.due("read() of an empty tape", x.read(), 0);
        Press.due("place() behind it", x.place(), WhilePress.NONE);
        Press.due("what was read is a program of nothing", x.run(0, 0), 0);
        Counted y = new Counted();
        Press.dueThrow("lower() of nothing", "IllegalStateException", () -> y.lower());
        Press.dueThrow("run(0, 0) of nothing", "IllegalStateException", () -> y.run(0, 0));
        Press p = Press.of("int a;read a;");
        Press.due("nothing is there to read", p.x.run(0, 9), 5);
        Press.due("clear() of nothing", p.x.clear(), 0);
    }

    /** The n lowest bytes of a long (n 1 .. 8), the lowest first. */
    private static void bytesPerFeed() {
        String text = "print 5;";
        long all = 0;
        for (int k = 0; k < 8; k++) {
            all |= (long) text.charAt(k) << 8 * k;
        }
        for (int n = 1; n <= 8; n++) {
            Counted x = new Counted();
            // What stands above the n lowest bytes may be anything.
            long above = n == 8 ? 0 : -1L << 8 * n;
            Press.due("feed of " + n, x.feed(all | above, n), n);
            for (int k = n; k < 8; k++) {
                Press.due("feed of one more", x.feed(all >>> 8 * k, 1), k + 1);
            }
            Press.due("read() of " + n + " and the others", x.read(), 1);
            x.run(0, 5);
            Press.due("what is printed then", x.printed(0), 5);
        }
        int[] wrong = {0, 9, -1, 10, 16, 255, Integer.MIN_VALUE, Integer.MAX_VALUE};
        for (int n : wrong) {
            Press.dueThrow("feed of " + n, "IllegalArgumentException", () -> new Counted().feed(0x2020202020202020L, n));
        }
    }

    /** The TAPE has bytes, each 10 or 32 .. 126. */
    private static void bytesThatMayBe() {
        for (int b = 0; b < 256; b++) {
            boolean mayBe = b == 10 || b >= 32 && b <= 126;
            int at = b % 8;
            long row = 0x2020202020202020L & ~(255L << 8 * at) | (long) b << 8 * at;
            Press.dueText("byte " + b + " at " + at, Press.told(() -> new Counted().feed(row, 8)),
                mayBe ? "8" : "IllegalArgumentException");
            Press.dueText("byte " + b + " at " + at + ", the last", Press.told(() -> new Counted().feed(row, at + 1)),
                mayBe ? "" + (at + 1) : "IllegalArgumentException");
        }
        int[] edges = {9, 10, 11, 31, 32, 126, 127, 128, 255};
        for (int b : edges) {
            boolean mayBe = b == 10 || b == 32 || b == 126;
            for (int at = 0; at < 8; at++) {
                long row = 0x6161616161616161L & ~(255L << 8 * at) | (long) b << 8 * at;
                Press.dueText("byte " + b + " at place " + at, Press.told(() -> new Counted().feed(row, 8)),
                    mayBe ? "8" : "IllegalArgumentException");
            }
        }
    }

    private static Counted tapeOf(int size) {
        Counted x = new Counted();
        for (int left = size; left > 0; left -= 8) {
            x.feed(0x2020202020202020L, Math.min(left, 8));
        }
        return x;
    }

    /** IllegalStateException: there would be more than 3000. */
    private static void aFullTape() {
        for (int n = 1; n <= 8; n++) {
            int size = n;
            Press.due("the last " + n + " of 3000", tapeOf(3000 - n).feed(0x2020202020202020L, n), 3000);
            Counted x = tapeOf(3001 - n);
            Press.dueThrow(n + " to 3001", "IllegalStateException", () -> x.feed(0x2020202020202020L, size));
            Press.due("one less than that", n == 1 ? 3000 : x.feed(0x2020202020202020L, n - 1), 3000);
            Press.dueThrow("one to 3001", "IllegalStateException", () -> x.feed(32, 1));
            Press.due("read() of a full tape", x.read(), 0);
            Press.due("feed() behind it", x.feed(32, 1), 1);
        }
    }

    /** IllegalArgumentException comes before IllegalStateException, and a call that throws changes nothing. */
    private static void aRefusedFeed() {
        Counted full = tapeOf(3000);
        Press.dueThrow("n 0 of a full tape", "IllegalArgumentException", () -> full.feed(32, 0));
        Press.dueThrow("n 9 of a full tape", "IllegalArgumentException", () -> full.feed(32, 9));
        Press.dueThrow("byte 9 of a full tape", "IllegalArgumentException", () -> full.feed(9, 1));
        Press.dueThrow("byte 127 as the eighth", "IllegalArgumentException", () -> full.feed(0x7F20202020202020L, 8));
        Press p = new Press().feed("print ");
        Press.dueThrow("a good byte and a wrong one", "IllegalArgumentException", () -> p.x.feed('9' | 127 << 8, 2));
        Press.dueThrow("a wrong n", "IllegalArgumentException", () -> p.x.feed('9', 9));
        Press.due("the tape is as it was", p.feed("7").x.feed(';', 1), 8);
        Press.due("place() is as it was", p.x.place(), -1);
        Press.due("read() of what came", p.x.read(), 1);
        p.x.run(0, 1);
        Press.due("the number that came", p.x.printed(0), 7);
        Press q = new Press().feed("print 1;".repeat(374) + "     ");
        Press.dueThrow("four more than there is room for", "IllegalStateException", () -> q.x.feed(0x20202020L, 4));
        Press.due("three more", q.x.feed(0x3B2020L, 3), 3000);
        Press.due("its last byte is the sign", q.x.read(), -2);
        Press.due("its place", q.x.place(), 2999);
    }

    /** The TAPE is taken as a TEXT, and empty then. */
    private static void theTapeIsEmptyBehindRead() {
        Press p = Press.of("print 1;");
        Press.due("an empty tape behind a text", p.x.read(), 0);
        Press.due("read() with a fault", p.read("print"), -2);
        Press.due("an empty tape behind a fault", p.x.feed(32, 1), 1);
        Press.due("read() of what came behind it", p.x.read(), 0);
        Press.due("its place", p.x.place(), -1);
    }

    /** WORDS may be parted by 32 and 10. */
    private static void partsOfWords() {
        ok("int a;row r[2];a=1;r[a]=a;", 2);
        ok(" int\na ; row\n\nr [ 2 ] ; a = 1 ; r\n[ a ] = a ;\n", 2);
        ok("\n", 0);
        ok(" ", 0);
        fault("printa;", 2, 6);
        fault("print 1 2;", 2, 8);
        fault("print 1\n2;", 2, 8);
        ok("print 1< 2;print 1<=2;", 2);
        fault("print 1< =2;", 2, 9);
        fault("print 1&\n&2;", 2, 9);
        fault("pr int 1;", 2, 3);
    }

    /** A NAME: a small letter, then small letters and figures, 8 at most. */
    private static void lengthsOfNames() {
        String name = "z";
        for (int size = 1; size <= 8; size++) {
            ok("int " + name + ";" + name + "=1;print " + name + ";", 2);
            name += size % 2 == 0 ? "z" : "" + size;
        }
        fault("int " + name + ";", 1, 4);
        fault("int " + name + "0;", 1, 4);
        fault("int abcdefgh,abcdefghi;", 1, 13);
        fault("print abcdefghi;", 1, 6);
        fault("print a00000000;", 1, 6);
        // The eighth letter tells two of them apart.
        Press p = Press.of("int abcdefgh,abcdefgi;abcdefgh=1;abcdefgi=2;print abcdefgh;print abcdefgi;");
        Press.dueText("two NAMES of 8", p.run(0, 9), "0: 1 2 (0, 4)");
        fault("int abcdefgh;print abcdefgi;", 3, 19);
        fault("int abcdefgh;print abcdefg;", 3, 19);
        fault("int a;print aa;", 3, 12);
        // A figure is not the first of a NAME, and no sign or large letter is of it.
        fault("int 1a;", 2, 4);
        fault("int a_b;", 1, 5);
        fault("int aZ;", 1, 5);
    }

    /** KEYS are no names: break def do else if int next print read return row while. */
    private static void keysAreNoNames() {
        String[] keys = {"break", "def", "do", "else", "if", "int", "next", "print", "read", "return", "row", "while"};
        for (String key : keys) {
            fault("int " + key + ";", 2, 4);
            fault("row " + key + "[1];", 2, 4);
            fault("def " + key + "(){}", 2, 4);
            fault("def f(" + key + "){}", 2, 6);
            fault("read " + key + ";", 2, 5);
            fault("print " + key + ";", 2, 6);
            ok("int " + key + "x;" + key + "x=1;", 1);
            ok("int " + key + "0;" + key + "0=1;", 1);
            ok("int x" + key + ";x" + key + "=1;", 1);
            String less = key.substring(0, key.length() - 1);
            ok("int " + less + ";" + less + "=1;", 1);
        }
    }

    /** A NUMBER: figures, up to 2147483647. */
    private static void largestNumber() {
        String[] numbers = {"0", "1", "9", "10", "00", "2147483646", "2147483647", "002147483647", "1999999999"};
        for (String number : numbers) {
            Press p = Press.of("print " + number + ";");
            Press.dueText("the number " + number, p.run(0, 1), "0: " + Long.parseLong(number) + " (0, 1)");
        }
        String[] tooLarge = {"2147483648", "2147483649", "3000000000", "4294967295", "4294967296", "4294967297", "10000000000",
            "9223372036854775807", "9223372036854775808", "18446744073709551615", "18446744073709551616",
            "18446744073709551617", "36893488147419103233", "99999999999999999999999", "0002147483648"};
        for (String number : tooLarge) {
            fault("print " + number + ";", 1, 6);
            fault("row r[" + number + "];", 1, 6);
        }
        ok("print " + "0".repeat(2900) + "7;", 1);
        fault("print " + "9".repeat(2900) + ";", 1, 6);
        // A NUMBER ends where the figures end.
        fault("print 2147483647a;", 2, 16);
        fault("print 7a;", 2, 7);
    }

    /** SIGNS: (the longest that is there). */
    private static void longestSigns() {
        String[] signs = {"<=", ">=", "==", "!=", "<<", ">>", "&&", "||"};
        for (String sign : signs) {
            ok("print 1" + sign + "2;", 1);
            fault("print 1" + sign + sign.charAt(1) + "2;", 2, 9);
        }
        ok("print 1<-2;print 1>-2;print 1<!2;print 1>~2;print 1&-2;print 1|!2;", 6);
        ok("print 1!=-2;print 1== -2;print 1<<-2;print 1>>~2;print 1&&!2;print 1||-2;", 6);
        ok("print !!1;print ~~1;print --1;print !-~1;print 1--1;print 1- - -1;", 6);
        fault("print 1=!2;", 2, 7);
        fault("print 1=<2;", 2, 7);
        fault("print 1=>2;", 2, 7);
        fault("print 1!2;", 2, 7);
        fault("print 1~2;", 2, 7);
        fault("print 1++2;", 2, 8);
        fault("print 1**2;", 2, 8);
        fault("print 1//2;", 2, 8);
        fault("print 1^^2;", 2, 8);
        fault("print 1<>2;", 2, 8);
        fault("print 1><2;", 2, 8);
        fault("int a;a+=1;", 2, 7);
        fault("int a;a<<=1;", 2, 7);
        fault("int a;a>>=1;", 2, 7);
        fault("int a;a!=1;", 2, 7);
        fault("int a;a=!=1;", 2, 8);
        ok("int a;a=!!1;a=-1;a=~1;", 3);
    }

    /** 1 a byte or word that can't be. */
    private static void bytesThatCantBe() {
        for (int b = 33; b < 127; b++) {
            String text = "" + (char) b;
            boolean isBad = "\"#$'.:?@\\_`".indexOf(b) >= 0 || b >= 'A' && b <= 'Z';
            boolean goesOn = b >= 'a' && b <= 'z' || b == '{';
            fault(text, isBad ? 1 : 2, isBad || !goesOn ? 0 : 1);
            fault("print 1; " + text, isBad ? 1 : 2, isBad || !goesOn ? 9 : 10);
        }
    }

    /** An int where a decl may be is one; the statements of the program are a block. */
    private static void anIntIsADeclOrNot() {
        ok("int a;", 0);
        ok("int a;int b;row r[1];int c;def f(){}int d;", 0);
        ok("{}int a;", 2);
        ok("int a;{}int a;", 2);
        fault("int a;int a;", 4, 10);
        fault("{}int a;int a;", 4, 12);
        fault("{}row r[1];", 2, 2);
        fault("{}def f(){}", 2, 2);
        fault("{row r[1];}", 2, 1);
        fault("{def f(){}}", 2, 1);
        fault("def f(){row r[1];}", 2, 8);
        fault("def f(){def g(){}}", 2, 8);
    }

    /** The statement of an if, else, while or do is no int: 2. */
    private static void statementsOfIfElseWhileDo() {
        fault("if(1)int a;", 2, 5);
        ok("if(1){int a;}", 3);
        fault("if(1){}else int a;", 2, 12);
        ok("if(1){}else{int a;}", 4);
        fault("while(1)int a;", 2, 8);
        ok("while(1){int a;}", 3);
        fault("do int a;while(1);", 2, 3);
        ok("do{int a;}while(1);", 3);
        fault("def f()int a;", 2, 7);
        ok("def f(){int a;}", 1);
        fault("if(1)row r[1];", 2, 5);
        fault("if(1)else{}", 2, 5);
        fault("if(1){}else{}else{}", 2, 13);
    }

    /** 2 a word that does not fit there (at the end, behind the last byte, when one lacks). */
    private static void lacksAtTheEnd() {
        String whole = "int a;row r[2];def f(x){return x;}if(a){a=f(1);}else r[0]=-1;do{read a;}while(a&&1);";
        for (int size = 0; size < whole.length(); size++) {
            String part = whole.substring(0, size);
            boolean isWhole = part.isEmpty() || part.endsWith("int a;") || part.endsWith("[2];") || part.endsWith("x;}")
                || part.endsWith("(1);}") || part.endsWith("=-1;");
            if (!isWhole) {
                // A part of while is a NAME, and that is a word too many; else it is the next word that lacks.
                boolean isName = part.endsWith("}w") || part.endsWith("}wh") || part.endsWith("}whi") || part.endsWith("}whil");
                fault(part, 2, isName ? whole.indexOf("while") : size);
            }
        }
        ok(whole, 8);
        fault("print 1", 2, 7);
        fault("print 1 ", 2, 8);
        fault("print 1\n\n", 2, 9);
    }

    /** Its byte, from 0. */
    private static void placesOfAFullTape() {
        fault("}", 2, 0);
        String text = "print 1;".repeat(374);
        ok("{}".repeat(1500), 1500);
        fault("{}".repeat(1499) + "{{", 2, 3000);
        fault("{}".repeat(1499) + "{ ", 2, 3000);
        fault("{}".repeat(1499) + "}", 2, 2998);
        fault(text + "print 1 ", 2, 3000);
        fault(text + "print  1", 2, 3000);
        fault(text + "      }", 2, 2998);
        fault(text + "       }", 2, 2999);
        fault(text + "       #", 1, 2999);
        fault(text + "       a", 2, 3000);
        fault("break ;" + " ".repeat(2993), 3, 0);
    }

    /** 3 a NAME that is not what is wanted there: an int, or a list's NAME, for a number; a row with [; a def with (. */
    private static void namesAndTheirKinds() {
        String tells = "int n;row r[2];def f(x){}";
        int at = tells.length();
        String[] uses = {"#=1;", "print #;", "read #;", "#[0]=1;", "print #[0];", "#(1);", "print #(1);"};
        String[] wanted = {"n", "n", "n", "r", "r", "f", "f"};
        String[] all = {"n", "r", "f", "z"};
        for (int k = 0; k < uses.length; k++) {
            for (String name : all) {
                String use = uses[k].replace("#", name);
                if (name.equals(wanted[k])) {
                    ok(tells + use, 1);
                } else {
                    fault(tells + use, 3, at + uses[k].indexOf('#'));
                }
            }
        }
        // A list's NAME is a number, to take and to give.
        ok("def f(x){x=x+1;read x;print x;return x;}", 4);
        fault("def f(x){x[0]=1;}", 3, 9);
        fault("def f(x){x();}", 3, 9);
        fault("int n;print n+n*r;", 3, 16);
        fault("row r[2];r[r]=1;", 3, 11);
        fault("row r[2];r[0]=r;", 3, 14);
    }

    /** A def with ( and as many exprs as its list has NAMES. */
    private static void lengthsOfLists() {
        String[] lists = {"", "a", "a,b", "a,b,c", "a,b,c,d", "a,b,c,d,e", "a,b,c,d,e,g"};
        String[] exprs = {"", "1", "1,2", "1,2,3", "1,2,3,4", "1,2,3,4,5", "1,2,3,4,5,6", "1,2,3,4,5,6,7", "1,2,3,4,5,6,7,8"};
        for (String list : lists) {
            String def = "def f(" + list + "){}";
            for (String given : exprs) {
                boolean fits = (list.length() + 1) / 2 == (given.length() + 1) / 2;
                if (fits) {
                    ok(def + "f(" + given + ");", 1);
                    ok(def + "print 1+f(" + given + ");", 1);
                } else {
                    fault(def + "f(" + given + ");", 3, def.length());
                    fault(def + "print 1+f(" + given + ");", 3, def.length() + 8);
                }
            }
        }
    }

    /** break or next outside of a loop, return outside of a def: at that word. */
    private static void breakNextAndReturn() {
        String[] words = {"break", "next"};
        for (String word : words) {
            fault(word + ";", 3, 0);
            fault("{" + word + ";}", 3, 1);
            fault("if(1)" + word + ";", 3, 5);
            ok("while(1)" + word + ";", 2);
            ok("while(1){{" + word + ";}}", 4);
            ok("while(1)if(1){}else " + word + ";", 4);
            ok("do " + word + ";while(1);", 2);
            fault("while(1){}" + word + ";", 3, 10);
            fault("do{}while(1);" + word + ";", 3, 13);
            fault("while(1)while(1){}" + word + ";", 3, 18);
            ok("while(1){while(1){}" + word + ";}", 5);
            ok("while(1){do{}while(1);" + word + ";}", 5);
            // What stands in a def that is called in a loop is not in that loop.
            fault("def f(){" + word + ";}while(1)f();", 3, 8);
            ok("def f(){while(1)" + word + ";}f();", 3);
            fault("def f(){while(1){}}" + word + ";", 3, 19);
        }
        fault("return 1;", 3, 0);
        fault("while(1){return 1;}", 3, 9);
        ok("def f(){return 1;}", 1);
        ok("def f(){while(1){return 1;}}", 3);
        fault("def f(){}return 1;", 3, 9);
        fault("def f(){return 1;}return 2;", 3, 18);
    }

    /** A NAME means what was told in the innermost block around it that tells it before it, else the decl or def. */
    private static void whereANameIsSeen() {
        fault("{print a;int a;}", 3, 7);
        ok("{int a;print a;}", 3);
        ok("{int a;{print a;}}", 4);
        fault("{{int a;}print a;}", 3, 15);
        fault("{int a;}print a;", 3, 14);
        fault("{}int b;print a;int a;", 3, 14);
        fault("def f(x){}print x;", 3, 16);
        fault("def f(x){}def g(y){print x;}", 3, 25);
        fault("def f(){int x;}def g(){print x;}", 3, 29);
        // A def sees itself not, nor those behind it; its block sees no NAMES of what calls it.
        fault("def f(x){return f(x);}", 3, 16);
        fault("def f(){g();}def g(){f();}", 3, 8);
        ok("def f(){}def g(){f();}", 1);
        fault("def f(){print a;}{int a;f();}", 3, 14);
        fault("def f(){print a;}int a;", 3, 14);
        ok("int a;def f(){print a;}", 1);
        // The inner one is meant, of whatever kind the outer one is.
        fault("row r[1];{int r;r[0]=1;}", 3, 16);
        fault("def f(){}{int f;f();}", 3, 16);
        fault("row r[1];def f(r){return r[0];}", 3, 25);
        ok("row r[1];{int r;r=1;}r[0]=1;", 4);
        ok("def f(){}{int f;f=1;}f();", 4);
        Press p = Press.of("int a;a=1;{print a;int a;print a;a=2;{int a;a=3;}print a;}print a;");
        Press.dueText("what each means", p.shown(0), "0: 1 0 2 1");
    }

    /** 4 a NAME told already, where it is told. */
    private static void namesToldAlready() {
        // Of decls and defs one of any decl or def before.
        String[] tells = {"int a;", "row a[1];", "def a(){}", "int b,a;"};
        int[] places = {4, 4, 4, 6};
        for (String first : tells) {
            for (int k = 0; k < tells.length; k++) {
                String second = tells[k].replace('b', 'd');
                fault(first + second, 4, first.length() + places[k]);
                ok(first + second.replace('a', 'c'), 0);
            }
        }
        fault("int a,a;", 4, 6);
        ok("int a,aa;", 0);
        // Of a list one of the same list.
        fault("def f(a,a){}", 4, 8);
        fault("def f(a,b,c,d,e,a){}", 4, 16);
        ok("def f(a){}def g(a){}", 0);
        ok("int a;row b[1];def f(a,b,f){}", 0);
        // Of an int in a block, or a list, one of the same block (the list's NAMES and the def's block are one).
        fault("{int a,a;}", 4, 7);
        fault("{int a;print 1;int a;}", 4, 19);
        ok("{int a;{int a;}}", 4);
        ok("{{int a;}int a;}", 4);
        ok("{int a;}{int a;}", 4);
        fault("def f(a){int a;}", 4, 13);
        fault("def f(a){print a;int b,a;}", 4, 23);
        ok("def f(a){{int a;}}", 2);
        ok("def f(a){if(1){int a;}}", 3);
        ok("int a;{}int a;", 2);
        fault("{}int a;int b,a;", 4, 14);
        ok("row r[1];def f(){}{}int r,f;", 2);
    }

    /** 6 a row of 0 or more than 100 cells: at the NUMBER. */
    private static void cellsOfARow() {
        int[] good = {1, 2, 99, 100};
        for (int cells : good) {
            ok("row r[" + cells + "];", 0);
            Press p = Press.of("row r[" + cells + "];int i;i=" + cells + "-1;r[i]=7;print r[i];r[i+1]=8;");
            Press.dueText("the last cell of " + cells, p.shown(0), "7: 7");
        }
        ok("row r[00100];", 0);
        int[] wrong = {0, 101, 102, 200, 255, 256, 65536, 2147483647};
        for (int cells : wrong) {
            fault("row r[" + cells + "];", 6, 6);
        }
        fault("row r[000];", 6, 6);
    }

    private static String many(int n, String form) {
        StringBuilder text = new StringBuilder();
        for (int k = 0; k < n; k++) {
            text.append(form.replace("#", "" + (char) ('a' + k)));
        }
        return text.toString();
    }

    /** 6 a ninth row, a seventh NAME of a list, a sixteenth def: at the NAME. */
    private static void howManyRowsNamesDefs() {
        for (int n = 1; n <= 8; n++) {
            ok(many(n, "row #[1];"), 0);
        }
        fault(many(9, "row #[1];"), 6, 8 * 9 + 4);
        fault(many(12, "row #[1];"), 6, 8 * 9 + 4);
        fault(many(8, "row #[1];") + "int z;row y[0];", 6, 8 * 9 + 10);
        Press rows = Press.improved(many(8, "row #[9];") + "int i;" + many(8, "i=i+1;#[8]=i;") + many(8, "print #[8];"));
        for (int which = 0; which < 4; which++) {
            Press.dueText("each row has its own cells, run " + which, rows.shown(which), "0: 1 2 3 4 5 6 7 8");
        }
        for (int n = 1; n <= 15; n++) {
            ok(many(n, "def #(){}"), 0);
        }
        fault(many(16, "def #(){}"), 6, 15 * 9 + 4);
        fault(many(20, "def #(){}"), 6, 15 * 9 + 4);
        Press defs = Press.of(many(15, "def #(x){return x+1;}") + "print o(1)+a(2);");
        Press.dueText("the fifteenth def", defs.shown(0), "0: 5");
        ok("def z(a,b,c,d,e,f){}", 0);
        fault("def z(a,b,c,d,e,f,g){}", 6, 18);
        fault("def z(a,b,c,d,e,f,g,h,i){}", 6, 18);
        ok("def z(a,b,c,d,e,f){int g,h;}def y(a,b,c,d,e,f){}", 1);
        Press list = Press.of("def z(a,b,c,d,e,f){return f*10+a;}print z(1,2,3,4,5,6);");
        Press.dueText("the sixth NAME", list.shown(0), "0: 61");
        // Decls have no such limit: they may be as many as the tape has room for.
        StringBuilder ints = new StringBuilder("int zzz");
        for (String name : Press.names(700)) {
            ints.append(',').append(name);
        }
        ok(ints + ";", 0);
        ok("{" + ints + ";}", 2);
    }

    /** FAULTS, the first place that has one; of one place the lesser; 3, 4 and 6 when there is none of 1, 2 and 5. */
    private static void firstPlaceThenLeastNumber() {
        fault("print a;print 1;int a,a;", 3, 6);
        fault("int a,a;print b;", 4, 6);
        fault("int a;row r[0];int a;", 6, 12);
        fault("print a;row r[0];", 2, 8);
        fault("print a;print #", 1, 14);
        fault("int a,a;" + "{".repeat(25), 5, 32);
        fault("row r[0];print", 2, 14);
        fault("print #;print", 1, 6);
        fault("print ;print #", 2, 6);
        fault("{".repeat(25) + "#", 5, 24);
        fault("{".repeat(24) + "#" + "{", 1, 24);
        fault("{".repeat(24) + "]" + "{", 2, 24);
        // One place with two of them.
        fault(many(8, "row #[1];") + "row a[1];", 4, 76);
        fault(many(15, "def #(){}") + "def a(){}", 4, 139);
        fault("def z(a,b,c,d,e,f,a){}", 4, 18);
        fault("{".repeat(24) + "(", 2, 24);
        fault("{".repeat(24) + "[", 2, 24);
        fault("{".repeat(24) + "-", 2, 24);
        fault("{".repeat(24) + "else", 2, 24);
        fault("{".repeat(24) + "print 1(", 2, 31);
        fault("{".repeat(24) + "print 1!", 2, 31);
        // A call whose list does not fit is told at its NAME, before all that is within.
        fault("def f(x){}print f(a,b);", 3, 16);
        fault("def f(x){}print f(a);", 3, 18);
        fault("def f(x){}print a+f(1,2);", 3, 16);
    }

    /** Or less its FAULT's number, what was read, lowered and improved before stays then. */
    private static void whatAFaultLeaves() {
        String[] faulty = {"#", "print", "print a;", "int a,a;", "{".repeat(25), "row r[0];"};
        int[] places = {0, 5, 6, 6, 24, 6};
        for (int k = 0; k < faulty.length; k++) {
            Press p = Press.improved("int a;read a;print a+1;").input(4);
            Press.due("read() of " + faulty[k], p.read(faulty[k]), -(k + 1));
            Press.due("its place", p.x.place(), places[k]);
            for (int which = 0; which < 4; which++) {
                Press.dueText("run " + which + " of what was there before", p.shown(which), "0: 5");
            }
            Press.due("told(3)", p.x.told(3), 5);
            Press.due("told(4)", p.x.told(4), 3);
            Press.due("told(5)", p.x.told(5), 4);
            Press.due("a text that is good", p.read("print 9;"), 1);
            Press.due("has no place", p.x.place(), WhilePress.NONE);
            for (int what = 3; what <= 7; what++) {
                Press.due("told(" + what + ") behind it", p.x.told(what), 0);
            }
            // The latest run is not of the text: it stays told.
            Press.due("told(0)", p.x.told(0), 1);
            Press.due("told(1)", p.x.told(1), 1);
            Press.due("told(2)", p.x.told(2), 4);
            Press.due("printed(0)", p.x.printed(0), 5);
        }
        // With nothing read before, nothing is read behind a fault.
        for (String text : faulty) {
            Press p = new Press();
            p.read(text);
            Press.dueThrow("lower() behind " + text, "IllegalStateException", () -> p.x.lower());
            Press.dueThrow("run() behind " + text, "IllegalStateException", () -> p.x.run(0, 5));
        }
    }
}
