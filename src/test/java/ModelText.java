import java.math.BigInteger;
import java.util.ArrayList;
import java.util.Arrays;
import java.util.HashMap;
import java.util.List;
import java.util.Map;
import java.util.Set;

/**
 * The document's TEXT in its plainest form, to hold the class against: one walk makes a tree (FAULTS 1, 2 and 5), one
 * looks at its NAMES (FAULTS 3, 4 and 6), one runs it. It shares nothing with the class.
 */
final class ModelText {
    /** What a NAME may mean: an int ('i'), a row ('r') or a def ('d'). */
    static final class Thing {
        final char kind;
        int number;
        int value;
        int[] cells = {};
        final List<Thing> list = new ArrayList<>();
        Node block;

        Thing(char kind) {
            this.kind = kind;
        }
    }

    static final class Node {
        final String kind;
        final int place;
        String name = "";
        int number;
        final List<Node> kids = new ArrayList<>();
        Thing thing;

        Node(String kind, int place, Node... kids) {
            this.kind = kind;
            this.place = place;
            this.kids.addAll(List.of(kids));
        }

        Node kid(int k) {
            return kids.get(k);
        }
    }

    private record Word(String kind, String text, int place) {
    }

    private static final class Fault extends RuntimeException {
        private static final long serialVersionUID = 1;
        final int number;
        final int place;

        Fault(int number, int place) {
            this.number = number;
            this.place = place;
        }
    }

    private static final Set<String> KEYS = Set.of("break", "def", "do", "else", "if", "int", "next", "print", "read",
        "return", "row", "while");
    private static final List<String> SIGNS = List.of("<=", ">=", "==", "!=", "<<", ">>", "&&", "||", "(", ")", "{", "}",
        "[", "]", ",", ";", "=", "+", "-", "*", "/", "%", "&", "|", "^", "~", "!", "<", ">");
    private static final List<Set<String>> STRENGTHS = List.of(Set.of("||"), Set.of("&&"), Set.of("|"), Set.of("^"),
        Set.of("&"), Set.of("==", "!="), Set.of("<", "<=", ">", ">="), Set.of("<<", ">>"), Set.of("+", "-"),
        Set.of("*", "/", "%"));

    final List<Thing> ints = new ArrayList<>();
    final List<Thing> rows = new ArrayList<>();
    Node block;
    int statements;
    int fault;
    int place = -1;

    private final List<Word> words = new ArrayList<>();
    private int at;
    private int open;
    private final List<Map<String, Thing>> seen = new ArrayList<>();
    private int defs;
    private int loops;
    private boolean inDef;

    ModelText(String text) {
        split(text);
        try {
            List<Node> before = new ArrayList<>();
            while (is("int") || is("row") || is("def")) {
                before.add(is("int") ? ints() : is("row") ? row() : def());
            }
            block = new Node("{", 0);
            while (!is("END")) {
                block.kids.add(statement(true));
            }
            lookAt(before);
        } catch (Fault f) {
            fault = f.number;
            place = f.place;
        }
    }

    private void split(String text) {
        int k = 0;
        while (k < text.length()) {
            char c = text.charAt(k);
            int from = k;
            if (c == ' ' || c == '\n') {
                k++;
            } else if (c >= 'a' && c <= 'z') {
                while (k < text.length() && Character.toString(text.charAt(k)).matches("[a-z0-9]")) {
                    k++;
                }
                String name = text.substring(from, k);
                words.add(new Word(name.length() > 8 ? "BAD" : KEYS.contains(name) ? name : "NAME", name, from));
            } else if (c >= '0' && c <= '9') {
                while (k < text.length() && text.charAt(k) >= '0' && text.charAt(k) <= '9') {
                    k++;
                }
                String figures = text.substring(from, k);
                boolean fits = new BigInteger(figures).bitLength() <= 31;
                words.add(new Word(fits ? "NUMBER" : "BAD", figures, from));
            } else {
                String sign = "";
                for (String s : SIGNS) {
                    sign = sign.isEmpty() && text.startsWith(s, k) ? s : sign;
                }
                words.add(new Word(sign.isEmpty() ? "BAD" : sign, sign, from));
                k += Math.max(1, sign.length());
            }
        }
        words.add(new Word("END", "", text.length()));
    }

    private Word word() {
        return words.get(at);
    }

    private boolean is(String kind) {
        return word().kind.equals(kind);
    }

    private Fault misfit() {
        return new Fault(is("BAD") ? 1 : 2, word().place);
    }

    private Word take(String kind) {
        if (!is(kind)) {
            throw misfit();
        }
        at++;
        return words.get(at - 1);
    }

    /** Takes a word that stands open from here on. */
    private Word takeOpen(String kind) {
        if (!is(kind)) {
            throw misfit();
        }
        open++;
        if (open > 24) {
            throw new Fault(5, word().place);
        }
        return take(kind);
    }

    private void takeClosing(String kind) {
        take(kind);
        open--;
    }

    private Node name() {
        Word w = take("NAME");
        Node n = new Node("NAME", w.place);
        n.name = w.text;
        return n;
    }

    private Node number() {
        Word w = take("NUMBER");
        Node n = new Node("NUMBER", w.place);
        n.number = Integer.parseInt(w.text);
        return n;
    }

    private Node ints() {
        Node n = new Node("int", take("int").place, name());
        while (is(",")) {
            take(",");
            n.kids.add(name());
        }
        take(";");
        return n;
    }

    private Node row() {
        Node n = new Node("row", take("row").place, name());
        takeOpen("[");
        n.kids.add(number());
        takeClosing("]");
        take(";");
        return n;
    }

    /** Its kids: the NAME, those of the list, the block. */
    private Node def() {
        Node n = new Node("def", take("def").place, name());
        takeOpen("(");
        if (!is(")")) {
            n.kids.add(name());
            while (is(",")) {
                take(",");
                n.kids.add(name());
            }
        }
        takeClosing(")");
        n.kids.add(block());
        return n;
    }

    private Node block() {
        Node n = new Node("{", takeOpen("{").place);
        while (!is("}")) {
            n.kids.add(statement(true));
        }
        takeClosing("}");
        return n;
    }

    private Node inBrackets() {
        takeOpen("(");
        Node e = expr(0);
        takeClosing(")");
        return e;
    }

    private Node statement(boolean mayBeInt) {
        statements++;
        int from = word().place;
        switch (word().kind) {
            case "{":
                return block();
            case "int":
                if (!mayBeInt) {
                    throw misfit();
                }
                return ints();
            case "NAME":
                return named();
            case "if":
                return ifStatement();
            case "while":
                takeOpen("while");
                Node loop = new Node("while", from, inBrackets(), statement(false));
                open--;
                return loop;
            case "do":
                takeOpen("do");
                Node inner = statement(false);
                open--;
                take("while");
                return ended(new Node("do", from, inner, inBrackets()));
            case "break":
            case "next":
                return ended(new Node(take(word().kind).kind, from));
            case "return":
            case "print":
                return ended(new Node(take(word().kind).kind, from, expr(0)));
            case "read":
                take("read");
                return ended(new Node("read", from, name()));
            default:
                throw misfit();
        }
    }

    private Node ended(Node n) {
        take(";");
        return n;
    }

    private Node ifStatement() {
        int from = takeOpen("if").place;
        Node n = new Node("if", from, inBrackets(), statement(false));
        if (is("else")) {
            takeOpen("else");
            n.kids.add(statement(false));
            open--;
        }
        open--;
        return n;
    }

    private Node named() {
        Node name = name();
        if (is("=")) {
            take("=");
            return ended(new Node("=", name.place, name, expr(0)));
        }
        if (is("[")) {
            Node cell = cell(name);
            take("=");
            return ended(new Node("[=", name.place, cell, expr(0)));
        }
        if (is("(")) {
            return ended(new Node("call", name.place, call(name)));
        }
        throw misfit();
    }

    private Node cell(Node name) {
        takeOpen("[");
        Node n = new Node("[", name.place, name, expr(0));
        takeClosing("]");
        return n;
    }

    /** Its kids: the NAME and the exprs. */
    private Node call(Node name) {
        takeOpen("(");
        Node n = new Node("(", name.place, name);
        if (!is(")")) {
            n.kids.add(expr(0));
            while (is(",")) {
                take(",");
                n.kids.add(expr(0));
            }
        }
        takeClosing(")");
        return n;
    }

    private Node expr(int strength) {
        if (strength == STRENGTHS.size()) {
            return operand();
        }
        Node left = expr(strength + 1);
        while (STRENGTHS.get(strength).contains(word().kind)) {
            Word sign = take(word().kind);
            left = new Node(sign.kind, sign.place, left, expr(strength + 1));
        }
        return left;
    }

    private Node operand() {
        if (is("-") || is("!") || is("~")) {
            Word sign = takeOpen(word().kind);
            Node n = new Node(sign.kind + " before", sign.place, operand());
            open--;
            return n;
        }
        if (is("NUMBER")) {
            return number();
        }
        if (is("(")) {
            return inBrackets();
        }
        Node name = name();
        return is("[") ? cell(name) : is("(") ? call(name) : name;
    }

    // The NAMES.

    private void soft(int number, Node where) {
        boolean isFirst = fault == 0 || where.place < place || where.place == place && number < fault;
        if (isFirst) {
            fault = number;
            place = where.place;
        }
    }

    private void lookAt(List<Node> before) {
        seen.add(new HashMap<>());
        for (Node n : before) {
            switch (n.kind) {
                case "int":
                    for (Node name : n.kids) {
                        ints.add(tell(name, new Thing('i')));
                    }
                    break;
                case "row":
                    lookAtRow(n);
                    break;
                default:
                    lookAtDef(n);
            }
        }
        inside(block);
    }

    private void lookAtRow(Node n) {
        Thing row = tell(n.kid(0), new Thing('r'));
        row.number = rows.size();
        rows.add(row);
        if (rows.size() > 8) {
            soft(6, n.kid(0));
        }
        int cells = n.kid(1).number;
        if (cells == 0 || cells > 100) {
            soft(6, n.kid(1));
        } else {
            row.cells = new int[cells];
        }
    }

    private void lookAtDef(Node n) {
        Thing def = new Thing('d');
        defs++;
        if (defs > 15) {
            soft(6, n.kid(0));
        }
        if (seen.get(0).containsKey(n.kid(0).name)) {
            soft(4, n.kid(0));
        }
        seen.add(new HashMap<>());
        for (int k = 1; k < n.kids.size() - 1; k++) {
            def.list.add(tell(n.kid(k), new Thing('i')));
            if (k > 6) {
                soft(6, n.kid(k));
            }
        }
        inDef = true;
        def.block = n.kid(n.kids.size() - 1);
        for (Node statement : def.block.kids) {
            look(statement);
        }
        inDef = false;
        seen.remove(1);
        seen.get(0).put(n.kid(0).name, def);
    }

    private Thing tell(Node name, Thing thing) {
        Map<String, Thing> here = seen.get(seen.size() - 1);
        if (here.containsKey(name.name)) {
            soft(4, name);
        }
        here.put(name.name, thing);
        name.thing = thing;
        return thing;
    }

    private void inside(Node of) {
        seen.add(new HashMap<>());
        for (Node statement : of.kids) {
            look(statement);
        }
        seen.remove(seen.size() - 1);
    }

    private void want(Node name, char kind) {
        for (int k = seen.size() - 1; k >= 0 && name.thing == null; k--) {
            name.thing = seen.get(k).get(name.name);
        }
        if (name.thing == null || name.thing.kind != kind) {
            soft(3, name);
        }
    }

    private void look(Node n) {
        switch (n.kind) {
            case "{":
                inside(n);
                return;
            case "int":
                for (Node name : n.kids) {
                    tell(name, new Thing('i'));
                }
                return;
            case "NAME":
                want(n, 'i');
                return;
            case "[":
                want(n.kid(0), 'r');
                look(n.kid(1));
                return;
            case "(":
                want(n.kid(0), 'd');
                Thing def = n.kid(0).thing;
                if (def != null && def.kind == 'd' && def.list.size() != n.kids.size() - 1) {
                    soft(3, n.kid(0));
                }
                n.kids.subList(1, n.kids.size()).forEach(this::look);
                return;
            case "break":
            case "next":
                if (loops == 0) {
                    soft(3, n);
                }
                return;
            case "return":
                if (!inDef) {
                    soft(3, n);
                }
                break;
            default:
                break;
        }
        int loop = n.kind.equals("while") || n.kind.equals("do") ? 1 : 0;
        loops += loop;
        n.kids.forEach(this::look);
        loops -= loop;
    }

    // A run.

    private static final class Stop extends RuntimeException {
        private static final long serialVersionUID = 1;
        final String why;
        final int number;

        Stop(String why, int number) {
            this.why = why;
            this.number = number;
        }
    }

    private int[] input;
    private int taken;
    private int fuel;
    private int used;
    private final List<Integer> prints = new ArrayList<>();

    /** "END numbers taken used". */
    String run(int[] numbers, int most) {
        input = numbers;
        fuel = most;
        taken = 0;
        used = 0;
        prints.clear();
        ints.forEach(t -> t.value = 0);
        rows.forEach(t -> Arrays.fill(t.cells, 0));
        int end = 0;
        try {
            go(block);
        } catch (Stop s) {
            end = s.number;
        }
        return ModelCode.told(end, prints, taken, used);
    }

    private void burn() {
        if (used == fuel) {
            throw new Stop("end", 6);
        }
        used++;
    }

    private void go(Node n) {
        if (!n.kind.equals("{") && !n.kind.equals("int")) {
            burn();
        }
        switch (n.kind) {
            case "{": n.kids.forEach(this::go); break;
            case "int": n.kids.forEach(name -> name.thing.value = 0); break;
            case "=": n.kid(0).thing.value = value(n.kid(1)); break;
            case "[=":
                int cell = value(n.kid(0).kid(1));
                int number = value(n.kid(1));
                cells(n.kid(0), cell)[cell] = number;
                break;
            case "call": value(n.kid(0)); break;
            case "if":
                if (value(n.kid(0)) != 0) {
                    go(n.kid(1));
                } else if (n.kids.size() > 2) {
                    go(n.kid(2));
                }
                break;
            case "while":
                while (tested(n.kid(0)) && goOn(n.kid(1))) {
                }
                break;
            case "do":
                while (goOn(n.kid(0)) && tested(n.kid(1))) {
                }
                break;
            case "print":
                int shown = value(n.kid(0));
                if (prints.size() == 300) {
                    throw new Stop("end", 8);
                }
                prints.add(shown);
                break;
            case "read":
                if (taken == input.length) {
                    throw new Stop("end", 5);
                }
                n.kid(0).thing.value = input[taken];
                taken++;
                break;
            default: throw new Stop(n.kind, n.kids.isEmpty() ? 0 : value(n.kid(0)));
        }
    }

    private boolean tested(Node e) {
        burn();
        return value(e) != 0;
    }

    /** Whether the loop goes on to its test behind the statement. */
    private boolean goOn(Node statement) {
        try {
            go(statement);
        } catch (Stop s) {
            if (s.why.equals("break")) {
                return false;
            }
            if (!s.why.equals("next")) {
                throw s;
            }
        }
        return true;
    }

    private int[] cells(Node cell, int index) {
        int[] cells = cell.kid(0).thing.cells;
        if (index < 0 || index >= cells.length) {
            throw new Stop("end", 7);
        }
        return cells;
    }

    private int value(Node e) {
        switch (e.kind) {
            case "NUMBER": return e.number;
            case "NAME": return e.thing.value;
            case "[":
                int index = value(e.kid(1));
                return cells(e, index)[index];
            case "(": return called(e);
            case "&&": return value(e.kid(0)) != 0 && value(e.kid(1)) != 0 ? 1 : 0;
            case "||": return value(e.kid(0)) != 0 || value(e.kid(1)) != 0 ? 1 : 0;
            default:
                int x = value(e.kid(0));
                int y = e.kids.size() > 1 ? value(e.kid(1)) : 0;
                int op = ModelCode.OPS.indexOf(e.kind);
                if (ModelCode.isDivided(op) && y == 0) {
                    throw new Stop("end", 4);
                }
                return ModelCode.result(op, x, y);
        }
    }

    private int called(Node e) {
        Thing def = e.kid(0).thing;
        int[] given = new int[def.list.size()];
        for (int k = 0; k < given.length; k++) {
            given[k] = value(e.kid(k + 1));
        }
        for (int k = 0; k < given.length; k++) {
            def.list.get(k).value = given[k];
        }
        try {
            go(def.block);
        } catch (Stop s) {
            if (s.why.equals("return")) {
                return s.number;
            }
            throw s;
        }
        return 0;
    }
}
