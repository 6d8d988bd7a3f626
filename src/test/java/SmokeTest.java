/** All parts at once, on one small program. */
public final class SmokeTest {
    public static void main(String[] args) {
        Press p = Press.of("int a; a = 1; while (a < 4) { print a * a; a = a + 1; }");
        Press.due("lower()", p.x.lower(), p.x.told(3));
        Press.due("improve()", p.x.improve(), p.x.told(5));
        for (int which = 0; which < 4; which++) {
            Press.dueText("run(" + which + ")", p.shown(which), "0: 1 4 9");
        }
        System.out.println(p.listing(false));
        System.out.println(p.listing(true));
        Press.end("SmokeTest");
    }
}
