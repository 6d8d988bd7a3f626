import java.util.ArrayList;
import java.util.List;
import java.util.Random;

/** Random programs, always the same ones: the text, the code, the improved code and its colours must agree. */
public final class RandomTest {
    private final Random random;
    private final List<String> rows = new ArrayList<>();
    private final List<String> defs = new ArrayList<>();
    private final List<Integer> lists = new ArrayList<>();
    private boolean inLoop;
    private boolean inDef;

    private RandomTest(long seed) {
        random = new Random(seed);
    }

    public static void main(String[] args) {
        int lowered = 0;
        for (int seed = 0; seed < 3000; seed++) {
            if (agrees(seed)) {
                lowered++;
            }
        }
        Press.due("enough programs were lowered", lowered > 2000 ? 1 : 0, 1);
        Press.end("RandomTest");
    }

    private static boolean agrees(int seed) {
        String text = new RandomTest(seed).program();
        if (text.length() > 3000) {
            return false;
        }
        Press p = Press.of(text).input(3, 0, -2, 7, 1);
        String want = p.x.run(0, 3000) + " " + rest(p);
        if (p.x.lower() == WhilePress.TOO_MUCH) {
            return false;
        }
        int before = p.x.told(3);
        Press.due("it gets no longer: " + text, p.x.improve() <= before ? 1 : 0, 1);
        Press.due("colours are no more than registers: " + text, p.x.told(6) <= p.x.told(4) ? 1 : 0, 1);
        looksRight(p, text);
        if (want.startsWith("6")) {
            return true;
        }
        int fuel = 0;
        for (int which = 1; which < 4; which++) {
            Press.dueText("run " + which + " of " + text, p.x.run(which, 100000) + " " + rest(p), want);
            if (which == 1) {
                fuel = p.x.told(2);
            }
            Press.due("fuel of " + text, p.x.told(2) <= fuel ? 1 : 0, 1);
        }
        return true;
    }

    /** What must hold of any improved code: nothing is left that one more round would change. */
    private static void looksRight(Press p, String text) {
        for (int i = 0; i < p.x.told(5); i++) {
            int op = p.x.code(true, i, 0);
            int d = p.x.code(true, i, 1);
            int form = p.x.code(true, i, 4);
            boolean isDead = op <= 20 && op != 5 && op != 6 && !p.x.isLive(true, i, d);
            boolean isFixed = op >= 2 && op <= 4 && form == 3;
            boolean isTest = (op == 26 || op == 27) && form != 0;
            boolean isNext = op >= 25 && op <= 27 && d == i + 1;
            Press.due("instruction " + i + " of " + text, isDead || isFixed || isTest || isNext ? 1 : 0, 0);
            if (op <= 21) {
                Press.due("a colour for " + d + " of " + text, p.x.colour(d) >= 0 ? 1 : 0, 1);
            }
        }
    }

    private static String rest(Press p) {
        StringBuilder out = new StringBuilder();
        for (int i = 0; i < p.x.told(0); i++) {
            out.append(p.x.printed(i)).append(' ');
        }
        return out.append(p.x.told(1)).toString();
    }

    private String program() {
        StringBuilder out = new StringBuilder("int a,b,c;row r[3];row q[100];");
        rows.add("r");
        rows.add("q");
        List<String> seen = new ArrayList<>(List.of("a", "b", "c"));
        int n = random.nextInt(4);
        for (int k = 0; k < n; k++) {
            List<String> inside = new ArrayList<>(seen);
            int names = random.nextInt(3);
            StringBuilder list = new StringBuilder();
            for (int j = 0; j < names; j++) {
                list.append(j == 0 ? "" : ",").append("x").append(j);
                inside.add("x" + j);
            }
            inDef = true;
            out.append("def f").append(k).append("(").append(list).append(")").append(block(inside, 2));
            inDef = false;
            defs.add("f" + k);
            lists.add(names);
        }
        int statements = 1 + random.nextInt(8);
        for (int k = 0; k < statements; k++) {
            out.append(statement(seen, 3));
        }
        return out.append("print a;print b;print c;").toString();
    }

    private String block(List<String> outside, int depth) {
        List<String> seen = new ArrayList<>(outside);
        StringBuilder out = new StringBuilder("{");
        if (random.nextInt(3) == 0) {
            out.append("int n").append(depth).append(";");
            seen.add("n" + depth);
        }
        int n = random.nextInt(4);
        for (int k = 0; k < n; k++) {
            out.append(statement(seen, depth - 1));
        }
        return out.append("}").toString();
    }

    private String pick(List<String> from) {
        return from.get(random.nextInt(from.size()));
    }

    private String statement(List<String> seen, int depth) {
        switch (random.nextInt(depth > 0 ? 14 : 8)) {
            case 0: return "print " + expr(seen, 3) + ";";
            case 1: return "read " + pick(seen) + ";";
            case 2: return pick(rows) + "[" + index(seen) + "]=" + expr(seen, 2) + ";";
            case 3: return defs.isEmpty() ? "{}" : call(seen, 2) + ";";
            case 4: return inLoop ? random.nextBoolean() ? "break;" : "next;" : "a=a+1;";
            case 5: return inDef ? "return " + expr(seen, 2) + ";" : "b=b+1;";
            case 6:
            case 7: return pick(seen) + "=" + expr(seen, 3) + ";";
            case 8:
            case 9: return "if(" + expr(seen, 2) + ")" + block(seen, depth);
            case 10: return "if(" + expr(seen, 2) + ")" + block(seen, depth) + "else " + block(seen, depth);
            case 11: return block(seen, depth);
            default: return loop(seen, depth);
        }
    }

    private String loop(List<String> seen, int depth) {
        boolean outer = inLoop;
        inLoop = true;
        String counter = pick(seen);
        String body = "{" + counter + "=" + counter + "+" + (1 + random.nextInt(3)) + ";" + block(seen, depth) + "}";
        inLoop = outer;
        String test = counter + "<" + random.nextInt(12);
        return random.nextBoolean() ? "while(" + test + ")" + body : "do " + body + "while(" + test + ");";
    }

    private String index(List<String> seen) {
        return random.nextInt(3) > 0 ? "" + random.nextInt(3) : expr(seen, 1);
    }

    private String call(List<String> seen, int depth) {
        int def = random.nextInt(defs.size());
        StringBuilder out = new StringBuilder(defs.get(def)).append("(");
        for (int k = 0; k < lists.get(def); k++) {
            out.append(k == 0 ? "" : ",").append(expr(seen, depth - 1));
        }
        return out.append(")").toString();
    }

    private static final String[] OPS = {"+", "-", "*", "/", "%", "&", "|", "^", "<<", ">>", "==", "!=", "<", "<=", ">", ">=",
        "&&", "||"};

    private String expr(List<String> seen, int depth) {
        int k = random.nextInt(10);
        if (depth <= 0 || k < 3) {
            return random.nextInt(3) > 0 ? pick(seen) : "" + random.nextInt(9);
        }
        if (k == 3) {
            return "-!~".charAt(random.nextInt(3)) + expr(seen, depth - 1);
        }
        if (k == 4) {
            return pick(rows) + "[" + index(seen) + "]";
        }
        if (k == 5 && !defs.isEmpty()) {
            return call(seen, depth);
        }
        if (k == 6) {
            return "(" + expr(seen, depth - 1) + ")";
        }
        return expr(seen, depth - 1) + OPS[random.nextInt(OPS.length)] + expr(seen, depth - 1);
    }
}
