/** Promises 43 and 44: led, log. */
public final class LogTest {
    public static void main(String[] args) {
        rows();
        sixty();
        refusals();
        Kit.close("LogTest");
    }

    private static void rows() {
        LaceBonds x = Kit.land("person 500 pace 5 at 0;person 500 pace 7 at 0;person 150 pace 1 at 0;pledge 4 to 0 for 999 knot 0 till 3;day 2");
        Kit.is("none", x.log(0, 0), -1);
        Kit.is("none led", x.led(4, false), 0);
        Kit.is("no day", x.led(4, true), -1);
        x.lend(0, 3, 100, 5, 50);
        x.days(1);
        x.give(3, 2);
        x.surety(3, 0);
        x.goal(0, 3);
        x.days(2);
        x.pay(3);
        x.lend(1, 0, 7, 0, 6);
        x.days(2);
        int[][] due = {{6, 0, 1, 7}, {5, 0, 0, 7}, {5, 3, 1, 115}, {3, 4, 2, 999}, {2, 3, 0, 100}};
        Kit.is("rows", x.count(9), due.length);
        for (int ago = 0; ago < due.length; ago++) {
            for (int what = 0; what < 4; what++) {
                Kit.is("row " + ago + " what " + what, x.log(ago, what), due[ago][what]);
            }
        }
        Kit.is("no row", x.log(5, 3), -1);
        Kit.is("none below 0", x.log(-1, 0), -1);
        Kit.is("none far", x.log(Integer.MAX_VALUE, 0), -1);
        Kit.is("none far below", x.log(Integer.MIN_VALUE, 0), -1);
        int[] many = {2, 0, 0, 2, 1, 0};
        int[] days = {6, -1, -1, 5, 3, -1};
        for (int lace = 0; lace < 6; lace++) {
            Kit.is("led " + lace, x.led(lace, false), many[lace]);
            Kit.is("led day " + lace, x.led(lace, true), days[lace]);
        }
    }

    private static void sixty() {
        LaceBonds x = Kit.land("person 500 pace 5 at 0;person 500 pace 7 at 0");
        x.lend(0, 2, 1, 0, 9999);
        x.lend(0, 3, 400, 0, 9999);
        for (int i = 0; i < 29; i++) {
            Kit.is("rows", x.count(9), 2 + 2 * i);
            x.pay(2);
            x.lend(0, 2, i + 2, 0, 9999);
        }
        Kit.is("60 rows", x.count(9), 60);
        Kit.is("the first", x.log(59, 3), 1);
        Kit.is("led", x.led(3, false), 1);
        x.days(1);
        x.pay(2);
        Kit.is("60 still", x.count(9), 60);
        Kit.is("the first is gone", x.log(59, 3), 400);
        Kit.is("no 61st", x.log(60, 3), -1);
        x.lend(0, 2, 9, 0, 9999);
        Kit.is("led no more", x.led(3, false), 0);
        Kit.is("no day", x.led(3, true), -1);
        Kit.is("all are of 2", x.led(2, false), 60);
        Kit.is("the latest", x.log(0, 3), 9);
        Kit.is("the latest day", x.led(2, true), 1);
        x.undo();
        Kit.is("the row is back", x.led(3, false), 1);
        Kit.is("the latest is gone", x.log(0, 2), 1);
        Kit.is("60 again", x.count(9), 60);
    }

    private static void refusals() {
        Kit.Maker world = Kit.of("person 500 pace 5 at 0;person 500 pace 7 at 0").then(x -> x.lend(0, 2, 1, 0, 9999));
        for (int lace : new int[] {-1, 4, Integer.MIN_VALUE, Integer.MAX_VALUE}) {
            Kit.leaves(world, "led " + lace, Kit.INDEX, x -> x.led(lace, false));
            Kit.leaves(world, "led day " + lace, Kit.INDEX, x -> x.led(lace, true));
        }
        for (int what : new int[] {-1, 4, Integer.MIN_VALUE, Integer.MAX_VALUE}) {
            Kit.leaves(world, "log what " + what, Kit.ELEMENT, x -> x.log(0, what));
            Kit.leaves(world, "log of none what " + what, Kit.ELEMENT, x -> x.log(9, what));
        }
    }
}
