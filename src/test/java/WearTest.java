/** Promises 34 and 35: wear, look. */
public final class WearTest {
    private static final String PERSON = "person 1 pace 1 at 1";

    public static void main(String[] args) {
        sets();
        parting();
        refusals();
        Kit.close("WearTest");
    }

    private static void sets() {
        Kit.Maker four = people(4);
        wear(four, 16, 0);
        wear(four, 4, 0, 0, 3, 1);
        wear(four, 6, 0, 0, 3, 2);
        wear(four, 1, 15, 0, 3, 4);
        wear(four, 1, 0, 0, 3, 0);
        wear(four, 0, 0, 0, 3, 5);
        wear(four, 0, 0, 0, 3, 255);
        wear(four, 8, 4, 2, 2, 1);
        wear(four, 8, 0, 2, 2, 0);
        wear(four, 3, 8, 0, 2, 1, 3, 3, 1);
        wear(four, 2, 1, 0, 1, 1, 1, 2, 0);
        wear(four, 1, 5, 0, 1, 1, 1, 2, 1, 0, 0, 1, 3, 3, 0);
        wear(four, 0, 0, 0, 1, 1, 0, 1, 2);
        wear(four, 2, 0, 0, 1, 1, 1, 2, 1, 2, 3, 1);
        // twelve rows are the most
        int[] rows = new int[36];
        for (int i = 0; i < 36; i += 3) {
            rows[i + 1] = 3;
            rows[i + 2] = 3;
        }
        wear(four, 4, 0, rows);
        wear(people(6), 20, 0, 0, 5, 3);
        wear(people(1), 1, 1, 0, 0, 1);
        wear(people(1), 2, 0);
        wear(LaceBonds::new, 1, 0);
    }

    private static void parting() {
        Kit.Maker four = people(4);
        look(four, 0);
        look(four, 0, 0, 3, 1);
        look(four, 0, 0, 3, 2);
        look(four, -1, 0, 3, 4);
        look(four, -1, 0, 3, 5);
        look(four, 1, 0, 0, 1);
        look(four, 1, 0, 0, 0);
        look(four, 2, 0, 1, 0);
        // {2} and {3}, or both: 0 and 1 part nothing
        look(four, 2, 0, 1, 2, 2, 3, 1);
        // sets with one of 0, 1, 2 and any 3: 3 parts them in halves
        look(four, 3, 0, 2, 1);
        look(people(1), 0);
        look(people(1), -1, 0, 0, 1);
        look(LaceBonds::new, -1);
    }

    private static void refusals() {
        Kit.Maker four = people(4);
        wrong(four, 0);
        wrong(four, 0, 1);
        wrong(four, 0, 3, 1, 0);
        wrong(four, 2, 1, 1);
        wrong(four, 0, 4, 1);
        wrong(four, 4, 4, 0);
        wrong(four, 255, 255, 0);
        wrong(four, 0, 255, 0);
        wrong(four, 0, 3, 1, 3, 2, 1);
        wrong(four, new int[39]);
        wrong(LaceBonds::new, 0, 0, 0);
        LaceBonds x = four.make();
        Kit.text(x, "x");
        Kit.refuses("a wrong text", Kit.ARGUMENT, () -> x.land());
        Kit.tape(x, 1);
        Kit.refuses("a wrong row", Kit.ARGUMENT, () -> x.wear(false));
        Kit.is("rows are no text", x.fault(), 0);
    }

    private static Kit.Maker people(int many) {
        return Kit.of((PERSON + ";").repeat(many - 1) + PERSON);
    }

    private static Kit.Maker told(Kit.Maker world, int... rows) {
        return world.then(x -> {
            Kit.tape(x, rows);
            return x;
        });
    }

    private static void wear(Kit.Maker world, int many, int sure, int... rows) {
        String name = "wear " + java.util.Arrays.toString(rows);
        Kit.asks(told(world, rows), name, many, x -> x.wear(false));
        Kit.asks(told(world, rows), "sure " + name, sure, x -> x.wear(true));
        Kit.asks(told(world, rows), "used up", false, x -> x.wear(false) >= 0 && x.end(1));
        Kit.asks(told(world, rows), "used up", false, x -> x.wear(true) >= 0 && x.end(1));
    }

    private static void look(Kit.Maker world, int due, int... rows) {
        Kit.asks(told(world, rows), "look " + java.util.Arrays.toString(rows), due, x -> x.look());
        Kit.asks(told(world, rows), "used up", false, x -> x.look() >= -1 && x.end(1));
    }

    private static void wrong(Kit.Maker world, int... rows) {
        Kit.leaves(told(world, rows), "wear of " + java.util.Arrays.toString(rows), Kit.ARGUMENT, x -> x.wear(false));
        Kit.leaves(told(world, rows), "look of " + java.util.Arrays.toString(rows), Kit.ARGUMENT, x -> x.look());
        LaceBonds x = told(world, rows).make();
        Kit.refuses("wear", Kit.ARGUMENT, () -> x.wear(true));
        Kit.is("used up", x.end(1), false);
        Kit.tape(x, rows);
        Kit.refuses("look", Kit.ARGUMENT, () -> x.look());
        Kit.is("used up", x.end(1), false);
        Kit.is("rows are no text", x.fault(), -1);
    }
}
