/** What the tests share: a WhilePress with texts and answers that are easy to write, and a count of what is wrong. */
final class Press {
    static int wrong = 0;
    static int looked = 0;

    final Counted x = new Counted();

    static void due(String what, long got, long want) {
        looked++;
        if (got != want) {
            wrong++;
            System.out.println(what + " answered " + got + ", due is " + want);
        }
    }

    static void dueText(String what, String got, String want) {
        looked++;
        if (!got.equals(want)) {
            wrong++;
            System.out.println(what + " answered\n" + got + "\ndue is\n" + want);
        }
    }

    /** Ends the test, with 1 if something was wrong. */
    static void end(String test) {
        System.out.println(test + ": " + looked + " looked at, " + wrong + " wrong");
        if (wrong > 0) {
            System.exit(1);
        }
    }

    interface Call {
        long answer();
    }

    /** The call's answer, or the exception's name. */
    static String told(Call call) {
        try {
            return "" + call.answer();
        } catch (RuntimeException e) {
            return e.getClass().getSimpleName();
        }
    }

    static void dueThrow(String what, String exception, Call call) {
        dueText(what, told(call), exception);
    }

    Press feed(String text) {
        for (int at = 0; at < text.length(); at += 8) {
            int n = Math.min(8, text.length() - at);
            long row = 0;
            for (int k = 0; k < n; k++) {
                row |= (long) text.charAt(at + k) << 8 * k;
            }
            x.feed(row, n);
        }
        return this;
    }

    int read(String text) {
        return feed(text).x.read();
    }

    /** A new one that has read the text, which must have no fault. */
    static Press of(String text) {
        Press p = new Press();
        if (p.read(text) < 0) {
            wrong++;
            System.out.println("a fault at " + p.x.place() + " of " + text);
        }
        return p;
    }

    /** The text has no fault, and so many statements. */
    static void ok(String text, int statements) {
        Press p = new Press();
        due("read() of " + text, p.read(text), statements);
        due("place() of " + text, p.x.place(), -1);
    }

    /** The text has this fault, at this byte. */
    static void fault(String text, int number, int place) {
        Press p = new Press();
        due("read() of " + text, p.read(text), -number);
        due("place() of " + text, p.x.place(), place);
    }

    /** A new one that has read, lowered and improved the text. */
    static Press improved(String text) {
        Press p = of(text);
        p.x.lower();
        p.x.improve();
        return p;
    }

    /** So many different NAMES of one or two letters, none of them a KEY. */
    static String[] names(int n) {
        String[] names = new String[n];
        for (int k = 0; k < n; k++) {
            String name = (k < 26 ? "" : "" + (char) ('a' + k / 26 - 1)) + (char) ('a' + k % 26);
            names[k] = name.equals("if") || name.equals("do") ? name + "0" : name;
        }
        return names;
    }

    Press input(int... numbers) {
        for (int v : numbers) {
            x.input(v);
        }
        return this;
    }

    /** A run as "END: number number .. (taken, used)". */
    String run(int which, int fuel) {
        StringBuilder out = new StringBuilder();
        out.append(x.run(which, fuel)).append(':');
        for (int i = 0; i < x.told(0); i++) {
            out.append(' ').append(x.printed(i));
        }
        return out.append(" (").append(x.told(1)).append(", ").append(x.told(2)).append(')').toString();
    }

    /** A run's END and numbers alone. */
    String shown(int which) {
        String all = run(which, 100000);
        return all.substring(0, all.indexOf(" ("));
    }

    /** The same END and numbers must come from the text, the code and both improved ones. */
    static void shows(String text, String want, int... input) {
        Press p = improved(text).input(input);
        for (int which = 0; which < 4; which++) {
            dueText("run(" + which + ") of " + text, p.shown(which), want);
        }
    }

    /** A number as an expr of the text. */
    static String number(int v) {
        return v == Integer.MIN_VALUE ? "(-2147483647-1)" : v < 0 ? "-" + -v : "" + v;
    }

    private static final String[] OPS = {"SET", "COPY", "+", "-", "*", "/", "%", "&", "|", "^", "<<", ">>", "==", "!=",
        "<", "<=", ">", ">=", "neg", "not", "turn", "LOAD", "STORE", "READ", "PRINT", "JUMP", "ZERO", "MANY", "HALT"};

    /** One instruction a line; constants as they are, registers with an r; fields that it has not must be 0. */
    String listing(boolean improved) {
        StringBuilder out = new StringBuilder();
        int count = x.told(improved ? 5 : 3);
        for (int i = 0; i < count; i++) {
            int op = x.code(improved, i, 0);
            int d = x.code(improved, i, 1);
            int form = x.code(improved, i, 4);
            String a = ((form & 1) != 0 ? " " : " r") + x.code(improved, i, 2);
            String b = ((form & 2) != 0 ? " " : " r") + x.code(improved, i, 3);
            String line = OPS[op] + (form < 0 || form > 3 ? " FORM" : "");
            if (op <= 1) {
                line += " r" + d + a + bare(improved, i, 3);
            } else if (op <= 17) {
                line += " r" + d + a + b;
            } else if (op <= 20) {
                line += " r" + d + a + bare(improved, i, 3);
            } else if (op == 21) {
                line += " r" + d + a + " of " + x.code(improved, i, 3) + (form > 1 ? " FORM" : "");
            } else if (op == 22) {
                line += " of " + d + a + b;
            } else if (op == 23) {
                line += " r" + d + bare(improved, i, 2) + bare(improved, i, 3) + (form != 0 ? " FORM" : "");
            } else if (op == 24) {
                line += a + bare(improved, i, 1) + bare(improved, i, 3);
            } else if (op == 25) {
                line += " " + d + bare(improved, i, 2) + bare(improved, i, 3) + (form != 0 ? " FORM" : "");
            } else if (op <= 27) {
                line += " " + d + a + bare(improved, i, 3);
            } else {
                line += bare(improved, i, 1) + bare(improved, i, 2) + bare(improved, i, 3) + (form != 0 ? " FORM" : "");
            }
            out.append(i == 0 ? "" : "; ").append(line);
        }
        return out.toString();
    }

    private String bare(boolean improved, int i, int what) {
        return x.code(improved, i, what) == 0 ? "" : " FIELD" + what;
    }
}
