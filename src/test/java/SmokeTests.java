/** The class stands: a new object answers. */
public final class SmokeTests {
    public static void main(String[] args) {
        Due due = new Due();
        CutRepairer x = new CutRepairer();
        due.is("count(0)", x.count(0), 3);
        due.end();
    }
}
