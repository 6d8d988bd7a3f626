import java.util.ArrayList;
import java.util.List;
import java.util.Random;

/** A random program that has no fault: NAMES that hide others, defs in defs, loops in loops, much that can be improved. */
final class ModelProgram {
    private static final String[] OPS = {"+", "-", "*", "/", "%", "&", "|", "^", "<<", ">>", "==", "!=", "<", "<=", ">",
        ">=", "&&", "||"};
    private static final String[] NAMES = {"a", "b", "c", "r", "q", "f0", "f1", "x"};

    /** What is seen at a place: NAMES of ints, of rows and of defs; a NAME told further in hides those before. */
    private static final class Seen {
        final List<String> ints = new ArrayList<>();
        final List<String> rows = new ArrayList<>();
        final List<String> defs = new ArrayList<>();
        final List<Integer> lists = new ArrayList<>();
        final List<String> here = new ArrayList<>();

        Seen within() {
            Seen s = new Seen();
            s.ints.addAll(ints);
            s.rows.addAll(rows);
            s.defs.addAll(defs);
            s.lists.addAll(lists);
            return s;
        }

        void tell(String name) {
            ints.remove(name);
            rows.remove(name);
            int def = defs.indexOf(name);
            if (def >= 0) {
                defs.remove(def);
                lists.remove(def);
            }
            ints.add(name);
            here.add(name);
        }
    }

    private final Random random;
    private int loops;
    private boolean inDef;
    private int left = 40;

    ModelProgram(Random random) {
        this.random = random;
    }

    String text() {
        Seen seen = new Seen();
        StringBuilder out = new StringBuilder();
        List<String> names = new ArrayList<>(List.of(NAMES));
        int n = 1 + random.nextInt(6);
        for (int k = 0; k < n; k++) {
            String name = names.remove(random.nextInt(names.size()));
            int kind = k == 0 ? 0 : random.nextInt(4);
            if (kind < 2) {
                out.append("int ").append(name).append(";");
                seen.ints.add(name);
            } else if (kind == 2) {
                out.append("row ").append(name).append("[").append(1 + random.nextInt(4)).append("];");
                seen.rows.add(name);
            } else {
                out.append(def(name, seen));
            }
        }
        Seen inside = seen.within();
        if (random.nextBoolean()) {
            // What is read is not known: more is left to improve by the other steps.
            seen.ints.forEach(name -> out.append("read ").append(name).append(";"));
        }
        int statements = 1 + random.nextInt(random.nextInt(3) == 0 ? 20 : 7);
        for (int k = 0; k < statements; k++) {
            // An int where a decl may be would be one.
            out.append(k == 0 ? statement(inside, 3) : item(inside, 3));
        }
        return out.toString();
    }

    private String def(String name, Seen seen) {
        Seen inside = seen.within();
        StringBuilder out = new StringBuilder("def " + name + "(");
        int n = random.nextInt(4);
        List<String> names = new ArrayList<>(List.of(NAMES));
        for (int k = 0; k < n; k++) {
            String one = names.remove(random.nextInt(names.size()));
            inside.tell(one);
            out.append(k == 0 ? "" : ",").append(one);
        }
        inDef = true;
        out.append(")").append("{");
        int statements = random.nextInt(3);
        for (int k = 0; k < statements; k++) {
            out.append(item(inside, 2));
        }
        inDef = false;
        seen.defs.add(name);
        seen.lists.add(n);
        return out.append("}").toString();
    }

    /** A statement of a block: it may be an int. */
    private String item(Seen seen, int depth) {
        String name = NAMES[random.nextInt(NAMES.length)];
        if (random.nextInt(6) == 0 && !seen.here.contains(name)) {
            seen.tell(name);
            return "int " + name + ";";
        }
        return statement(seen, depth);
    }

    private String statement(Seen seen, int depth) {
        left--;
        switch (random.nextInt(depth > 0 && left > 0 ? 16 : 9)) {
            case 0: return "print " + expr(seen, 3) + ";";
            case 1: return "read " + pick(seen.ints) + ";";
            case 2: return seen.rows.isEmpty() ? "{}" : cell(seen) + "=" + expr(seen, 2) + ";";
            case 3: return seen.defs.isEmpty() ? "{}" : call(seen, 2) + ";";
            case 4: return loops > 0 ? random.nextBoolean() ? "break;" : "next;" : "print " + pick(seen.ints) + ";";
            case 5: return inDef ? "return " + expr(seen, 2) + ";" : pick(seen.ints) + "=" + number() + ";";
            case 6:
            case 7: return pick(seen.ints) + "=" + expr(seen, 3) + ";";
            case 8: return pick(seen.ints) + "=" + pick(seen.ints) + ";";
            case 9: return "if(" + expr(seen, 2) + ")" + statement(seen.within(), depth - 1);
            case 10:
            case 11: return "if(" + expr(seen, 2) + ")" + items(seen, depth) + "else " + statement(seen, depth - 1);
            case 12: return items(seen, depth);
            default: return loop(seen, depth);
        }
    }

    private String items(Seen outside, int depth) {
        Seen seen = outside.within();
        StringBuilder out = new StringBuilder("{");
        int n = random.nextInt(4);
        for (int k = 0; k < n; k++) {
            out.append(item(seen, depth - 1));
        }
        return out.append("}").toString();
    }

    private String loop(Seen seen, int depth) {
        loops++;
        String counter = pick(seen.ints);
        String inner = random.nextInt(4) == 0 ? statement(seen, depth - 1)
            : "{" + counter + "=" + counter + "+" + (1 + random.nextInt(3)) + ";" + items(seen, depth) + "}";
        loops--;
        String test = random.nextInt(4) == 0 ? expr(seen, 2) : counter + "<" + random.nextInt(12);
        return random.nextBoolean() ? "while(" + test + ")" + inner : "do " + inner + "while(" + test + ");";
    }

    private String pick(List<String> from) {
        return from.isEmpty() ? "a" : from.get(random.nextInt(from.size()));
    }

    private String number() {
        int[] some = {0, 1, 2, 3, 5, 31, 32, 33, 100, 2147483647};
        return "" + some[random.nextInt(some.length)];
    }

    private String cell(Seen seen) {
        return pick(seen.rows) + "[" + (random.nextInt(3) > 0 ? "" + random.nextInt(4) : expr(seen, 1)) + "]";
    }

    private String call(Seen seen, int depth) {
        int def = random.nextInt(seen.defs.size());
        StringBuilder out = new StringBuilder(seen.defs.get(def)).append("(");
        for (int k = 0; k < seen.lists.get(def); k++) {
            out.append(k == 0 ? "" : ",").append(expr(seen, depth - 1));
        }
        return out.append(")").toString();
    }

    private String expr(Seen seen, int depth) {
        int k = random.nextInt(10);
        if (depth <= 0 || k < 3) {
            return random.nextInt(3) > 0 ? pick(seen.ints) : number();
        }
        if (k == 3) {
            return "-!~".charAt(random.nextInt(3)) + expr(seen, depth - 1);
        }
        if (k == 4 && !seen.rows.isEmpty()) {
            return cell(seen);
        }
        if (k == 5 && !seen.defs.isEmpty()) {
            return call(seen, depth);
        }
        if (k == 6) {
            return "(" + expr(seen, depth - 1) + ")";
        }
        return expr(seen, depth - 1) + OPS[random.nextInt(OPS.length)] + expr(seen, depth - 1);
    }
}
