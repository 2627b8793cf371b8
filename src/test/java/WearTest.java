/** Promises 34 and 35: wear, look. */
public final class WearTest {
    private static final String PERSON = "person 1 pace 1 at 1";

    public static void main(String[] args) {
        sets();
        parting();
        refusals();
        Kit.close("WearTest");
    }

    private static void sets() {
        LaceBonds x = people(4);
        wear(x, 16, 0);
        wear(x, 4, 0, 0, 3, 1);
        wear(x, 6, 0, 0, 3, 2);
        wear(x, 1, 15, 0, 3, 4);
        wear(x, 1, 0, 0, 3, 0);
        wear(x, 0, 0, 0, 3, 5);
        wear(x, 0, 0, 0, 3, 255);
        wear(x, 8, 4, 2, 2, 1);
        wear(x, 8, 0, 2, 2, 0);
        wear(x, 3, 8, 0, 2, 1, 3, 3, 1);
        wear(x, 2, 1, 0, 1, 1, 1, 2, 0);
        wear(x, 1, 5, 0, 1, 1, 1, 2, 1, 0, 0, 1, 3, 3, 0);
        wear(x, 0, 0, 0, 1, 1, 0, 1, 2);
        wear(x, 2, 0, 0, 1, 1, 1, 2, 1, 2, 3, 1);
        // twelve rows are the most
        int[] rows = new int[36];
        for (int i = 0; i < 36; i += 3) {
            rows[i + 1] = 3;
            rows[i + 2] = 3;
        }
        wear(x, 4, 0, rows);
        wear(people(6), 20, 0, 0, 5, 3);
        wear(people(1), 1, 1, 0, 0, 1);
        wear(people(1), 2, 0);
        wear(new LaceBonds(), 1, 0);
    }

    private static void parting() {
        LaceBonds x = people(4);
        look(x, 0);
        look(x, 0, 0, 3, 1);
        look(x, 0, 0, 3, 2);
        look(x, -1, 0, 3, 4);
        look(x, -1, 0, 3, 5);
        look(x, 1, 0, 0, 1);
        look(x, 1, 0, 0, 0);
        look(x, 2, 0, 1, 0);
        // {2} and {3}, or both: 0 and 1 part nothing
        look(x, 2, 0, 1, 2, 2, 3, 1);
        // sets with one of 0, 1, 2 and any 3: 3 parts them in halves
        look(x, 3, 0, 2, 1);
        look(people(1), 0);
        look(people(1), -1, 0, 0, 1);
        look(new LaceBonds(), -1);
    }

    private static void refusals() {
        LaceBonds x = people(4);
        wrong(x, 0);
        wrong(x, 0, 1);
        wrong(x, 0, 3, 1, 0);
        wrong(x, 2, 1, 1);
        wrong(x, 0, 4, 1);
        wrong(x, 4, 4, 0);
        wrong(x, 255, 255, 0);
        wrong(x, 0, 255, 0);
        wrong(x, 0, 3, 1, 3, 2, 1);
        wrong(x, new int[39]);
        wrong(new LaceBonds(), 0, 0, 0);
        Kit.text(x, "x");
        Kit.refuses("a wrong text", Kit.ARGUMENT, () -> x.land());
        wrong(x, 1);
        Kit.is("rows are no text", x.fault(), 0);
    }

    private static LaceBonds people(int many) {
        return Kit.land((PERSON + ";").repeat(many - 1) + PERSON);
    }

    private static void wear(LaceBonds x, int many, int sure, int... rows) {
        String name = "wear " + java.util.Arrays.toString(rows);
        String before = Kit.all(x);
        Kit.tape(x, rows);
        Kit.is(name, x.wear(false), many);
        Kit.is("used up", x.end(1), false);
        Kit.tape(x, rows);
        Kit.is("sure " + name, x.wear(true), sure);
        Kit.is("used up", x.end(1), false);
        Kit.is("nothing changed", Kit.all(x), before);
    }

    private static void look(LaceBonds x, int due, int... rows) {
        Kit.tape(x, rows);
        Kit.is("look " + java.util.Arrays.toString(rows), x.look(), due);
        Kit.is("used up", x.end(1), false);
    }

    private static void wrong(LaceBonds x, int... rows) {
        Kit.tape(x, rows);
        Kit.leaves(x, "wear of " + java.util.Arrays.toString(rows), Kit.ARGUMENT, () -> x.wear(false));
        Kit.is("used up", x.end(1), false);
        Kit.tape(x, rows);
        Kit.leaves(x, "look of " + java.util.Arrays.toString(rows), Kit.ARGUMENT, () -> x.look());
        Kit.is("used up", x.end(1), false);
    }
}
