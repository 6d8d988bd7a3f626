import java.util.List;
import java.util.Map;
import java.util.Random;

/** Random texts, always the same ones: every answer of the class is that of a plain second program. */
public final class ModelTest {
    private static final int[] INPUT = {3, 0, 2};
    private static final int FUEL = 200;

    public static void main(String[] args) {
        int from = args.length > 0 ? Integer.parseInt(args[0]) : 0;
        int to = args.length > 1 ? Integer.parseInt(args[1]) : 600;
        int sound = 0;
        for (int seed = from; seed < to; seed++) {
            String text = new ModelProgram(new Random(seed)).text();
            if (agrees(text)) {
                sound++;
            }
            agrees(new ModelDamage(new Random(seed)).done(text));
        }
        Press.due("enough texts have no fault", sound * 10 > (to - from) * 9 ? 1 : 0, 1);
        Press.end("ModelTest");
    }

    private static boolean agrees(String text) {
        String want = whole(text);
        Press.dueText(text, ReferenceTest.whole(new Press().input(INPUT), text), want);
        return !want.startsWith("fault");
    }

    /** As ReferenceTest.whole() lists the class's answers. */
    static String whole(String text) {
        ModelText read = new ModelText(text);
        if (read.fault != 0) {
            return "fault " + read.fault + " " + read.place;
        }
        StringBuilder out = new StringBuilder("read " + read.statements + "\nrun0 " + read.run(INPUT, FUEL));
        ModelCode code = ModelCode.lowered(read);
        if (code.isTooMuch()) {
            return out.append("\ntoo much 0 0").toString();
        }
        int n = code.code.size();
        boolean isSmall = n * code.registers <= 6000;
        out.append("\nlower " + n + " " + code.registers + "\ncode " + code.listed());
        out.append(isSmall ? known(code) + live(code) : "");
        ModelCode better = code.improved();
        out.append("\nimprove " + better.code.size() + " rounds " + better.rounds + "\ncode " + better.listed());
        out.append(isSmall ? live(better) : "");
        int[] colours = better.colours();
        int[] same = new int[colours.length];
        int most = 0;
        StringBuilder listed = new StringBuilder();
        for (int r = 0; r < colours.length; r++) {
            listed.append(r == 0 ? "" : ",").append(colours[r]);
            most = Math.max(most, colours[r] + 1);
            same[r] = r;
        }
        out.append("\ncolours " + most + " " + listed);
        out.append("\nrun1 " + code.run(INPUT, FUEL, same));
        out.append("\nrun2 " + better.run(INPUT, FUEL, same));
        return out.append("\nrun3 " + better.run(INPUT, FUEL, colours)).toString();
    }

    private static String known(ModelCode code) {
        StringBuilder out = new StringBuilder("\nknown ");
        Map<ModelCode.Instruction, List<Integer>> known = code.known();
        for (int i = 0; i < code.code.size(); i++) {
            List<Integer> here = known.get(code.code.get(i));
            out.append(i > 0 ? " " : "");
            for (int r = 0; r < code.registers; r++) {
                out.append(r > 0 ? "," : "").append(here == null || here.get(r) == null ? "-" : "" + here.get(r));
            }
        }
        return out.toString();
    }

    private static String live(ModelCode code) {
        StringBuilder out = new StringBuilder("\nlive ");
        for (int i = 0; i < code.code.size(); i++) {
            out.append(i > 0 ? " " : "");
            for (int r = 0; r < code.registers; r++) {
                out.append(code.isLive(code.code.get(i), r) ? 1 : 0);
            }
        }
        return out.toString();
    }
}
