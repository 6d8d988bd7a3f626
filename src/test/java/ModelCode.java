import java.util.ArrayDeque;
import java.util.ArrayList;
import java.util.Collections;
import java.util.Deque;
import java.util.HashMap;
import java.util.HashSet;
import java.util.List;
import java.util.Map;
import java.util.Set;

/** The document's code in its plainest form: instructions are objects, and jumps know the object that they go to. */
final class ModelCode {
    static final List<String> OPS = List.of("SET", "COPY", "+", "-", "*", "/", "%", "&", "|", "^", "<<", ">>", "==",
        "!=", "<", "<=", ">", ">=", "- before", "! before", "~ before", "LOAD", "STORE", "READ", "PRINT", "JUMP", "ZERO",
        "MANY", "HALT");
    private static final int SET = 0;
    private static final int COPY = 1;
    private static final int LOAD = 21;
    private static final int STORE = 22;
    private static final int READ = 23;
    private static final int PRINT = 24;
    private static final int JUMP = 25;
    private static final int ZERO = 26;
    private static final int MANY = 27;
    private static final int HALT = 28;

    record Operand(boolean isConstant, int number) {
    }

    private static final Operand NOTHING = new Operand(true, 0);

    /** A place in the code that is still to come, or the instruction that came there. */
    private static final class Aim {
        int index = -1;
    }

    static final class Instruction {
        int op;
        int d;
        Operand a = NOTHING;
        Operand b = NOTHING;
        Aim aim;
        Instruction to;

        boolean hasA() {
            return op <= STORE || op == PRINT || op == ZERO || op == MANY;
        }

        boolean hasB() {
            return op >= 2 && op <= 17 || op == STORE;
        }

        boolean defines() {
            return op <= LOAD || op == READ;
        }

        boolean uses(int register) {
            Operand it = new Operand(false, register);
            return hasA() && a.equals(it) || hasB() && b.equals(it);
        }

        boolean isWork() {
            return op >= 2 && op <= 20;
        }

        boolean isJump() {
            return op == JUMP || op == ZERO || op == MANY;
        }

        Instruction copy() {
            Instruction i = new Instruction();
            i.become(op, d, a, b);
            return i;
        }

        void become(int newOp, int newD, Operand newA, Operand newB) {
            op = newOp;
            d = newD;
            a = newA;
            b = newB;
        }
    }

    List<Instruction> code = new ArrayList<>();
    int registers;
    int rounds;
    private final List<Integer> cells = new ArrayList<>();
    private final Map<ModelText.Thing, Integer> registerOf = new HashMap<>();
    private final Deque<Aim> breaks = new ArrayDeque<>();
    private final Deque<Aim> nexts = new ArrayDeque<>();
    private final Deque<Aim> returns = new ArrayDeque<>();
    private final Deque<Integer> results = new ArrayDeque<>();

    static boolean isDivided(int op) {
        return op == 5 || op == 6;
    }

    static int result(int op, int x, int y) {
        switch (OPS.get(op)) {
            case "+": return x + y;
            case "-": return x - y;
            case "*": return x * y;
            case "/": return x / y;
            case "%": return x % y;
            case "&": return x & y;
            case "|": return x | y;
            case "^": return x ^ y;
            case "<<": return x << y;
            case ">>": return x >> y;
            case "==": return x == y ? 1 : 0;
            case "!=": return x != y ? 1 : 0;
            case "<": return x < y ? 1 : 0;
            case "<=": return x <= y ? 1 : 0;
            case ">": return x > y ? 1 : 0;
            case ">=": return x >= y ? 1 : 0;
            case "- before": return -x;
            case "! before": return x == 0 ? 1 : 0;
            case "~ before": return ~x;
            default: throw new AssertionError(OPS.get(op));
        }
    }

    static String told(int end, List<Integer> prints, int taken, int used) {
        StringBuilder out = new StringBuilder(end + " ");
        for (int i = 0; i < prints.size(); i++) {
            out.append(i == 0 ? "" : ",").append(prints.get(i));
        }
        return out + " " + taken + " " + used;
    }

    // LOWERING.

    private ModelCode() {
    }

    static ModelCode lowered(ModelText text) {
        ModelCode made = new ModelCode();
        text.rows.forEach(row -> made.cells.add(row.cells.length));
        text.ints.forEach(thing -> made.registerOf.put(thing, made.take()));
        made.lower(text.block);
        made.add(HALT, 0, NOTHING, NOTHING);
        for (Instruction i : made.code) {
            if (i.aim != null) {
                i.to = made.code.get(i.aim.index);
            }
        }
        return made;
    }

    boolean isTooMuch() {
        return code.size() > 400 || registers > 300;
    }

    private int take() {
        registers++;
        return registers - 1;
    }

    private static Operand register(int number) {
        return new Operand(false, number);
    }

    private static Operand constant(int number) {
        return new Operand(true, number);
    }

    private void add(int op, int d, Operand a, Operand b) {
        Instruction i = new Instruction();
        i.become(op, d, a, b);
        code.add(i);
    }

    private void jump(int op, Operand a, Aim aim) {
        add(op, 0, a, NOTHING);
        code.get(code.size() - 1).aim = aim;
    }

    private void here(Aim aim) {
        aim.index = code.size();
    }

    private void lay(int register, Operand e) {
        add(e.isConstant ? SET : COPY, register, e, NOTHING);
    }

    private Operand truth(ModelText.Node e, int first, int op) {
        int t = take();
        Aim end = new Aim();
        add(SET, t, constant(first), NOTHING);
        jump(op, v(e.kid(0)), end);
        add(OPS.indexOf("!="), t, v(e.kid(1)), constant(0));
        here(end);
        return register(t);
    }

    private Operand v(ModelText.Node e) {
        Operand first;
        Operand second;
        int t;
        switch (e.kind) {
            case "NUMBER":
                return constant(e.number);
            case "NAME":
                t = take();
                add(COPY, t, register(registerOf.get(e.thing)), NOTHING);
                return register(t);
            case "[":
                first = v(e.kid(1));
                t = take();
                add(LOAD, t, first, constant(e.kid(0).thing.number));
                return register(t);
            case "(":
                return call(e);
            case "&&":
                return truth(e, 0, ZERO);
            case "||":
                return truth(e, 1, MANY);
            default:
                first = v(e.kid(0));
                second = e.kids.size() > 1 ? v(e.kid(1)) : NOTHING;
                t = take();
                add(OPS.indexOf(e.kind), t, first, second);
                return register(t);
        }
    }

    private Operand call(ModelText.Node e) {
        ModelText.Thing def = e.kid(0).thing;
        List<Operand> given = new ArrayList<>();
        for (int k = 1; k < e.kids.size(); k++) {
            given.add(v(e.kid(k)));
        }
        for (int k = 0; k < given.size(); k++) {
            registerOf.put(def.list.get(k), take());
            lay(registerOf.get(def.list.get(k)), given.get(k));
        }
        int t = take();
        add(SET, t, constant(0), NOTHING);
        returns.push(new Aim());
        results.push(t);
        lower(def.block);
        here(returns.pop());
        results.pop();
        return register(t);
    }

    private void lower(ModelText.Node n) {
        Aim end = new Aim();
        Aim other = new Aim();
        // Nothing that is too much is wanted, and calls in calls could make very much of it.
        if (isTooMuch()) {
            return;
        }
        switch (n.kind) {
            case "{": n.kids.forEach(this::lower); break;
            case "int":
                for (ModelText.Node name : n.kids) {
                    registerOf.put(name.thing, take());
                    add(SET, registerOf.get(name.thing), constant(0), NOTHING);
                }
                break;
            case "=": lay(registerOf.get(n.kid(0).thing), v(n.kid(1))); break;
            case "[=":
                Operand cell = v(n.kid(0).kid(1));
                add(STORE, n.kid(0).kid(0).thing.number, cell, v(n.kid(1)));
                break;
            case "call": v(n.kid(0)); break;
            case "if":
                boolean hasElse = n.kids.size() > 2;
                jump(ZERO, v(n.kid(0)), hasElse ? other : end);
                lower(n.kid(1));
                if (hasElse) {
                    jump(JUMP, NOTHING, end);
                    here(other);
                    lower(n.kid(2));
                }
                break;
            case "while":
                here(other);
                jump(ZERO, v(n.kid(0)), end);
                lowerLoop(n.kid(1), end, other);
                jump(JUMP, NOTHING, other);
                break;
            case "do":
                Aim first = new Aim();
                here(first);
                lowerLoop(n.kid(0), end, other);
                here(other);
                jump(MANY, v(n.kid(1)), first);
                break;
            case "break": jump(JUMP, NOTHING, breaks.peek()); break;
            case "next": jump(JUMP, NOTHING, nexts.peek()); break;
            case "return":
                lay(results.peek(), v(n.kid(0)));
                jump(JUMP, NOTHING, returns.peek());
                break;
            case "print": add(PRINT, 0, v(n.kid(0)), NOTHING); break;
            case "read": add(READ, registerOf.get(n.kid(0).thing), NOTHING, NOTHING); break;
            default: throw new AssertionError(n.kind);
        }
        here(end);
    }

    private void lowerLoop(ModelText.Node statement, Aim end, Aim test) {
        breaks.push(end);
        nexts.push(test);
        lower(statement);
        breaks.pop();
        nexts.pop();
    }

    // IMPROVING.

    ModelCode improved() {
        ModelCode better = new ModelCode();
        better.registers = registers;
        better.cells.addAll(cells);
        code.forEach(i -> better.code.add(i.copy()));
        for (int i = 0; i < code.size(); i++) {
            Instruction to = code.get(i).to;
            better.code.get(i).to = to == null ? null : better.code.get(code.indexOf(to));
        }
        String before = "";
        while (!better.listed().equals(before)) {
            before = better.listed();
            better.constants();
            better.copies();
            better.dead();
            better.jumps();
            better.rounds++;
        }
        return better;
    }

    private List<Instruction> waysFrom(Instruction i) {
        List<Instruction> ways = new ArrayList<>();
        if (i.op != JUMP && i.op != HALT) {
            ways.add(code.get(code.indexOf(i) + 1));
        }
        if (i.isJump()) {
            ways.add(i.to);
        }
        return ways;
    }

    private Set<Instruction> reached() {
        Set<Instruction> reached = new HashSet<>();
        Deque<Instruction> open = new ArrayDeque<>(List.of(code.get(0)));
        while (!open.isEmpty()) {
            Instruction i = open.pop();
            if (reached.add(i)) {
                open.addAll(waysFrom(i));
            }
        }
        return reached;
    }

    private void goAway(Set<Instruction> gone) {
        for (Instruction i : code) {
            while (i.isJump() && !gone.contains(i) && gone.contains(i.to)) {
                i.to = code.get(code.indexOf(i.to) + 1);
            }
        }
        code.removeAll(gone);
    }

    private static Integer knownOf(Operand operand, List<Integer> known) {
        return operand.isConstant ? Integer.valueOf(operand.number) : known.get(operand.number);
    }

    private static List<Integer> knownBehind(Instruction i, List<Integer> known) {
        List<Integer> behind = new ArrayList<>(known);
        if (i.defines()) {
            Integer a = i.op == READ || i.op == LOAD ? null : knownOf(i.a, known);
            Integer b = i.hasB() ? knownOf(i.b, known) : Integer.valueOf(0);
            boolean isKnown = a != null && b != null && !(isDivided(i.op) && b == 0);
            behind.set(i.d, !isKnown ? null : i.isWork() ? Integer.valueOf(result(i.op, a, b)) : a);
        }
        return behind;
    }

    /** What is known before each instruction that can be come to: the ways are gone till nothing changes. */
    Map<Instruction, List<Integer>> known() {
        Map<Instruction, List<Integer>> known = new HashMap<>();
        known.put(code.get(0), new ArrayList<>(Collections.nCopies(registers, 0)));
        boolean changed = true;
        while (changed) {
            changed = false;
            for (Instruction i : code) {
                if (known.containsKey(i)) {
                    List<Integer> behind = knownBehind(i, known.get(i));
                    for (Instruction to : waysGone(i, known.get(i))) {
                        changed |= meet(known, to, behind);
                    }
                }
            }
        }
        return known;
    }

    private List<Instruction> waysGone(Instruction i, List<Integer> known) {
        Integer a = i.op == ZERO || i.op == MANY ? knownOf(i.a, known) : null;
        if (a == null) {
            return waysFrom(i);
        }
        return List.of((a == 0) == (i.op == ZERO) ? i.to : code.get(code.indexOf(i) + 1));
    }

    private static boolean meet(Map<Instruction, List<Integer>> known, Instruction to, List<Integer> behind) {
        List<Integer> old = known.get(to);
        if (old == null) {
            known.put(to, new ArrayList<>(behind));
            return true;
        }
        boolean changed = false;
        for (int r = 0; r < behind.size(); r++) {
            if (old.get(r) != null && !old.get(r).equals(behind.get(r))) {
                old.set(r, null);
                changed = true;
            }
        }
        return changed;
    }

    private void constants() {
        Map<Instruction, List<Integer>> known = known();
        for (Instruction i : code) {
            List<Integer> here = known.get(i);
            if (here == null) {
                continue;
            }
            if (i.hasA() && knownOf(i.a, here) != null) {
                i.a = constant(knownOf(i.a, here));
                i.op = i.op == COPY ? SET : i.op;
            }
            if (i.hasB() && knownOf(i.b, here) != null) {
                i.b = constant(knownOf(i.b, here));
            }
            boolean isFixed = i.isWork() && i.a.isConstant && (!i.hasB() || i.b.isConstant);
            if (isFixed && !(isDivided(i.op) && i.b.number == 0)) {
                i.become(SET, i.d, constant(result(i.op, i.a.number, i.b.number)), NOTHING);
            }
        }
    }

    private record Held(int register, int op, Operand a, Operand b) {
        boolean speaksOf(int other) {
            return register == other || isOf(other);
        }

        boolean isOf(int other) {
            return a.equals(ModelCode.register(other)) || b.equals(ModelCode.register(other));
        }
    }

    private static Set<Held> heldBehind(Instruction i, Set<Held> held) {
        Set<Held> behind = new HashSet<>(held);
        if (i.defines()) {
            behind.removeIf(h -> h.speaksOf(i.d));
        }
        if (i.op == COPY || i.isWork()) {
            Held fresh = new Held(i.d, i.op, i.a, i.b);
            if (!fresh.isOf(i.d)) {
                behind.add(fresh);
            }
        }
        return behind;
    }

    private Map<Instruction, Set<Held>> held() {
        Map<Instruction, Set<Held>> held = new HashMap<>();
        held.put(code.get(0), new HashSet<>());
        boolean changed = true;
        while (changed) {
            changed = false;
            for (Instruction i : code) {
                if (held.containsKey(i)) {
                    Set<Held> behind = heldBehind(i, held.get(i));
                    for (Instruction to : waysFrom(i)) {
                        Set<Held> old = held.putIfAbsent(to, new HashSet<>(behind));
                        changed |= old == null || old.retainAll(behind);
                    }
                }
            }
        }
        return held;
    }

    private static Operand original(Operand operand, Set<Held> held) {
        for (Held h : held) {
            if (h.op == COPY && operand.equals(register(h.register))) {
                return h.a;
            }
        }
        return operand;
    }

    private void copies() {
        Map<Instruction, Set<Held>> held = held();
        Set<Instruction> gone = new HashSet<>();
        for (Instruction i : code) {
            Set<Held> here = held.get(i);
            if (here == null) {
                continue;
            }
            i.a = i.hasA() ? original(i.a, here) : i.a;
            i.b = i.hasB() ? original(i.b, here) : i.b;
            int least = Integer.MAX_VALUE;
            for (Held h : here) {
                if (i.isWork() && h.equals(new Held(h.register, i.op, i.a, i.b))) {
                    least = Math.min(least, h.register);
                }
            }
            if (least < Integer.MAX_VALUE) {
                i.become(COPY, i.d, register(least), NOTHING);
            }
            if (i.op == COPY && i.a.number == i.d) {
                gone.add(i);
            }
        }
        goAway(gone);
    }

    /** By some way from there it is used before it is defined. */
    boolean isLive(Instruction behind, int register) {
        Set<Instruction> been = new HashSet<>();
        Deque<Instruction> open = new ArrayDeque<>(waysFrom(behind));
        while (!open.isEmpty()) {
            Instruction i = open.pop();
            if (i.uses(register)) {
                return true;
            }
            if (been.add(i) && !(i.defines() && i.d == register)) {
                open.addAll(waysFrom(i));
            }
        }
        return false;
    }

    private void dead() {
        Set<Instruction> gone = new HashSet<>();
        for (Instruction i : code) {
            boolean isKept = isDivided(i.op) && !(i.b.isConstant && i.b.number != 0)
                || i.op == LOAD && !(i.a.isConstant && i.a.number >= 0 && i.a.number < cells.get(i.b.number));
            if (i.op <= LOAD && !isKept && !isLive(i, i.d)) {
                gone.add(i);
            }
        }
        goAway(gone);
    }

    private void jumps() {
        Set<Instruction> gone = new HashSet<>();
        for (Instruction i : code) {
            if ((i.op == ZERO || i.op == MANY) && i.a.isConstant) {
                if ((i.a.number == 0) == (i.op == ZERO)) {
                    i.become(JUMP, 0, NOTHING, NOTHING);
                } else {
                    gone.add(i);
                }
            }
        }
        goAway(gone);
        leaveUnreached();
        for (Instruction i : code) {
            if (i.isJump()) {
                i.to = through(i.to);
            }
        }
        leaveUnreached();
        gone.clear();
        for (int k = 0; k + 1 < code.size(); k++) {
            if (code.get(k).isJump() && code.get(k).to == code.get(k + 1)) {
                gone.add(code.get(k));
            }
        }
        goAway(gone);
    }

    private void leaveUnreached() {
        Set<Instruction> reached = reached();
        Set<Instruction> gone = new HashSet<>(code);
        gone.removeAll(reached);
        goAway(gone);
    }

    private static Instruction through(Instruction first) {
        Set<Instruction> been = new HashSet<>();
        Instruction to = first;
        while (to.op == JUMP) {
            if (!been.add(to)) {
                return first;
            }
            to = to.to;
        }
        return to;
    }

    // COLOURS.

    private boolean isThere(int register) {
        return code.stream().anyMatch(i -> i.uses(register) || i.defines() && i.d == register);
    }

    private boolean areApart(int one, int other) {
        for (Instruction i : code) {
            boolean isOne = i.defines() && i.d == one && isLive(i, other) && !(i.op == COPY && i.a.number == other);
            boolean isOther = i.defines() && i.d == other && isLive(i, one) && !(i.op == COPY && i.a.number == one);
            if (isOne || isOther) {
                return true;
            }
        }
        return false;
    }

    int[] colours() {
        int[] colours = new int[registers];
        for (int r = 0; r < registers; r++) {
            colours[r] = -1;
            if (isThere(r)) {
                Set<Integer> taken = new HashSet<>();
                for (int before = 0; before < r; before++) {
                    if (colours[before] >= 0 && areApart(before, r)) {
                        taken.add(colours[before]);
                    }
                }
                int least = 0;
                while (taken.contains(least)) {
                    least++;
                }
                colours[r] = least;
            }
        }
        return colours;
    }

    // What is asked of it.

    /** OP, D, A, B and which are constants, of each instruction. */
    String listed() {
        StringBuilder out = new StringBuilder();
        for (Instruction i : code) {
            int d = i.isJump() ? code.indexOf(i.to) : i.d;
            int form = (i.hasA() && i.a.isConstant ? 1 : 0) + (i.hasB() && i.b.isConstant ? 2 : 0);
            out.append(out.length() == 0 ? "" : ";");
            out.append(i.op + "," + d + "," + i.a.number + "," + i.b.number + "," + form);
        }
        return out.toString();
    }

    String run(int[] input, int fuel, int[] places) {
        int[] now = new int[registers + 1];
        List<int[]> rows = new ArrayList<>();
        cells.forEach(n -> rows.add(new int[n]));
        List<Integer> prints = new ArrayList<>();
        int taken = 0;
        int used = 0;
        int end = -1;
        Instruction i = code.get(0);
        while (end < 0) {
            if (used == fuel) {
                return told(6, prints, taken, used);
            }
            used++;
            int a = !i.hasA() ? 0 : i.a.isConstant ? i.a.number : now[places[i.a.number]];
            int b = !i.hasB() ? 0 : i.b.isConstant ? i.b.number : now[places[i.b.number]];
            boolean isGone = i.op == JUMP || i.op == ZERO && a == 0 || i.op == MANY && a != 0;
            int[] row = i.op == LOAD ? rows.get(i.b.number) : i.op == STORE ? rows.get(i.d) : null;
            if (row != null && (a < 0 || a >= row.length)) {
                end = 7;
            } else if (isDivided(i.op) && b == 0) {
                end = 4;
            } else if (i.op == READ && taken == input.length) {
                end = 5;
            } else if (i.op == PRINT && prints.size() == 300) {
                end = 8;
            } else if (i.op == HALT) {
                end = 0;
            } else if (i.op == STORE) {
                row[a] = b;
            } else if (i.op == PRINT) {
                prints.add(a);
            } else if (i.op == READ) {
                now[places[i.d]] = input[taken];
                taken++;
            } else if (i.defines()) {
                now[places[i.d]] = i.op == LOAD ? row[a] : i.isWork() ? result(i.op, a, b) : a;
            }
            i = isGone ? i.to : i.op == HALT ? i : code.get(code.indexOf(i) + 1);
        }
        return told(end, prints, taken, used);
    }
}
