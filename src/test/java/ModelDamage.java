import java.util.ArrayList;
import java.util.List;
import java.util.Random;
import java.util.regex.Matcher;
import java.util.regex.Pattern;

/** Takes a text without a fault and does something to it, by which it has one perhaps. */
final class ModelDamage {
    private static final String[] PIECES = {"", " ", "{", "}", "(", ")", "[", "]", ";", ",", "=", "-", "!", "~", "if",
        "else", "while(1)", "do ", "int ", "print ", "read ", "row ", "def ", "12", "2147483648", "abcdefghi", "@", "A", "=="};
    private static final String[] NAMES = {"a", "b", "c", "r", "q", "f0", "f1", "x", "z"};
    private static final String[] STATEMENTS = {"break;", "next;", "return 1;", "int a,b;", "int r;", "int f0,f1,f0;",
        "f0(1,2);", "r[1]=2;", "q=r;", "x=f1();", "read f0;", "{int a;a=r[a];}", "if(a)int b;", "else a=1;",
        "while(1)break;", "do next;while(0);"};
    private static final String[] DECLS = {"row z[0];", "row z[100];", "row z[101];", "int z,z;", "def z(a,b,a){}",
        "def z(a,b,c,r,q,x){}", "def z(a,b,c,r,q,x,z){}", "def z(z){z=z;}", "def z(){z();}", "def z(a){int a;}",
        "def z(a){{int a;return a;}}", "row z[2];def y(){return z[1]+y1;}int y1;", "def z(){break;}"};

    private final Random random;

    ModelDamage(Random random) {
        this.random = random;
    }

    String done(String text) {
        switch (random.nextInt(6)) {
            case 0: return otherPiece(text);
            case 1: return otherWord(text, "[a-z][a-z0-9]*", NAMES[random.nextInt(NAMES.length)]);
            case 2: return otherWord(text, "(?<=[;{}])", STATEMENTS[random.nextInt(STATEMENTS.length)]);
            case 3: return otherWord(text, "\\b[0-9]+|\\b[abcx]\\b(?=[-+*/;)])", "-1+" + deepExpr(random.nextInt(26)) + "-2");
            case 4: return otherWord(text, "(?<=[;{}])", deepStatement(random.nextInt(26)));
            default: return manyDecls() + DECLS[random.nextInt(DECLS.length)] + text;
        }
    }

    private String otherPiece(String text) {
        int at = random.nextInt(text.length() + 1);
        int end = Math.min(text.length(), at + random.nextInt(3));
        return text.substring(0, at) + PIECES[random.nextInt(PIECES.length)] + text.substring(end);
    }

    private String otherWord(String text, String which, String other) {
        List<int[]> found = new ArrayList<>();
        Matcher matcher = Pattern.compile(which).matcher(text);
        while (matcher.find()) {
            found.add(new int[] {matcher.start(), matcher.end()});
        }
        if (found.isEmpty()) {
            return text + other;
        }
        int[] at = found.get(random.nextInt(found.size()));
        return text.substring(0, at[0]) + other + text.substring(at[1]);
    }

    private String deepExpr(int depth) {
        if (depth == 0) {
            return random.nextInt(4) == 0 ? "-(1)*~2" : "7";
        }
        switch (random.nextInt(6)) {
            case 0: return "(" + deepExpr(depth - 1) + ")";
            case 1: return "-" + deepExpr(depth - 1);
            case 2: return "!" + deepExpr(depth - 1) + "%3";
            case 3: return "~" + deepExpr(depth - 1);
            case 4: return "(2&&" + deepExpr(depth - 1) + "||-!~(1))";
            default: return "(-~!0|" + deepExpr(depth - 1) + ")<<1";
        }
    }

    private String deepStatement(int depth) {
        if (depth <= 0) {
            return random.nextBoolean() ? "{}" : "print -(1);";
        }
        String inner = deepStatement(depth - 1);
        switch (random.nextInt(7)) {
            case 0: return "{" + inner + "{}}";
            case 1: return "if(0)" + inner;
            case 2: return "while(0)" + inner;
            case 3: return "do " + inner + "while(!(0==0));";
            case 4: return "{if(1){}else " + deepStatement(depth - 3) + "}";
            case 5: return "{" + inner + "}";
            default: return "{{}if(-!~(1))" + deepStatement(depth - 2) + "}";
        }
    }

    private String manyDecls() {
        StringBuilder out = new StringBuilder();
        int rows = random.nextInt(3) == 0 ? random.nextInt(10) : 0;
        for (int k = 0; k < rows; k++) {
            out.append("row w").append(k).append("[").append(k + 1).append("];");
        }
        int defs = random.nextInt(3) == 0 ? random.nextInt(17) : 0;
        for (int k = 0; k < defs; k++) {
            out.append("def g").append(k).append("(a){return a+").append(k == 0 ? "1" : "g" + (k - 1) + "(2)").append(";}");
        }
        return out.toString();
    }
}
