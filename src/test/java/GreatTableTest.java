/** Tables on which all 104 tiles lie, so that there are as many states as there can be. */
public final class GreatTableTest {
    private static int wrong = 0;

    private static void due(String what, long got, long want) {
        if (got != want) {
            wrong++;
            System.out.println(what + " answered " + got + ", due is " + want);
        }
    }

    /** Has GREEDY players play by a seed by which all tiles come to lie on the table. */
    private static Rackword allLaid(int least, int seed) {
        Rackword x = new Rackword();
        x.rules(13, least, 2, 30, 3);
        x.player(0, Rackword.GREEDY);
        x.player(0, Rackword.GREEDY);
        x.deal(seed, 14, 9999);
        for (int i = 0; i < 300 && x.sum(0) != Rackword.NONE; i++) x.auto();
        return x;
    }

    /**
     * Behind a number from 7 on: groups take of each colour 0, 1 or 2 tiles in 21 ways, and the runs that are left
     * have any lengths up to LEAST: one of them, or two without order.
     */
    private static long statesFarOn(int least) {
        long one = least, two = least * (least + 1) / 2;
        long without = two * two * two * two;
        long triple = 4 * one * one * one * two;
        long four = one * one * one * one;
        long pairs = 4 * two + 6 * one * one + 4 * one + 1;
        return without + triple + four + pairs;
    }

    private static void ask(int least, int seed) {
        Rackword x = allLaid(least, seed);
        due("tiles on the table", x.sum(2), 104);
        for (int number = 7; number <= 13; number++) {
            due("states(" + number + ") with " + least, x.states(number), statesFarOn(least));
        }
        // 211460957645101 with 3, 202760011069 with 4: found by another program, in exact numbers, then taken modulo
        due("cuts(0)", x.cuts(0), least == 3 ? 956164881 : 760009655);
        // two runs of 13 of each colour
        due("cuts(1)", x.cuts(1), 8);
        // 32 sets of three and two of four
        if (least == 3) due("cuts(2)", x.cuts(2), 34);
        due("isWhole()", x.isWhole() ? 1 : 0, 1);
        due("alone(0)", x.alone(0) ? 1 : 0, 0);
        due("best(0, 0)", x.best(0, 0), 0);
        due("isReplayed()", x.isReplayed() ? 1 : 0, 1);
    }

    public static void main(String[] args) {
        due("states with 3", statesFarOn(3), 2116);
        due("states with 4", statesFarOn(4), 12969);
        ask(4, 45 * 977);
        ask(3, 48 * 977);
        System.out.println(wrong == 0 ? "all answers are as due" : wrong + " answers are not as due");
        if (wrong > 0) System.exit(1);
    }
}
