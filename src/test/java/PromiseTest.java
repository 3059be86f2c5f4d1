/** For each promise what it answers to ordinary, outermost and wrong arguments, with answers found by hand. */
public final class PromiseTest {
    private static final String ARGUMENT = "IllegalArgumentException";
    private static final String STATE = "IllegalStateException";
    private static final String INDEX = "IndexOutOfBoundsException";
    private static int wrong = 0;
    private static int asked = 0;

    private interface Call {
        long answer();
    }

    private static String outcome(Call call) {
        try {
            return Long.toString(call.answer());
        } catch (RuntimeException e) {
            return e.getClass().getSimpleName();
        }
    }

    private static void due(int promise, String what, Call call, String want) {
        asked++;
        String got = outcome(call);
        if (!got.equals(want)) {
            wrong++;
            System.out.println("promise " + promise + ": " + what + " answered " + got + ", due is " + want);
        }
    }

    private static void due(int promise, String what, Call call, long want) {
        due(promise, what, call, Long.toString(want));
    }

    private static long bit(boolean value) {
        return value ? 1 : 0;
    }

    /** Fields of sum() from a first one on. */
    private static void sums(int promise, Rackword x, int from, long... want) {
        for (int i = 0; i < want.length; i++) {
            int what = from + i;
            due(promise, "sum(" + what + ")", () -> x.sum(what), want[i]);
        }
    }

    private static void entry(int promise, Rackword x, int place, long... want) {
        for (int i = 0; i < want.length; i++) {
            int what = i;
            due(promise, "entry(" + place + ", " + what + ")", () -> x.entry(place, what), want[i]);
        }
    }

    private static void typeAll(Rackword x, String text) {
        for (char sign : text.toCharArray()) x.type(sign);
    }

    private static int playAll(Rackword x, String text) {
        x.wipe();
        typeAll(x, text);
        return x.play();
    }

    /**
     * Rules with the numbers 1 to 5, 3 jokers, a meld of 5, a penalty of 2, and two players with 20 seconds.
     * Dealt: a1 a2 a2 a5 b2 c1 c2 c3 c4 c4 c5 d3 d4 and a joker; a1 a3 a4 a5 b1 b2 b3 b3 b4 b4 c3 d2 d4 and a joker.
     */
    private static Rackword dealt(int first, int second) {
        Rackword x = new Rackword();
        x.rules(5, 3, 3, 5, 2);
        x.player(0, first);
        x.player(1, second);
        x.deal(623, 14, 20);
        return x;
    }

    /** As dealt; then a1 a2 and a joker as a3, c1 c2 c3 were laid by the player 0, b1 b2 b3 by the player 1. */
    private static Rackword melded(int first, int second) {
        Rackword x = dealt(first, second);
        x.lay(0);
        x.lay(1);
        x.joker(2);
        x.lay(26);
        x.lay(27);
        x.lay(28);
        x.end();
        x.lay(13);
        x.lay(14);
        x.lay(15);
        x.end();
        return x;
    }

    private static void newObject() {
        Rackword x = new Rackword();
        sums(1, x, 0, -1, 0, 0, 0, 0, 0, 0, 0, 0, -1, 0, 0);
        due(1, "playerIs(0, 0)", () -> x.playerIs(0, 0), INDEX);
        due(1, "entry(0, 0)", () -> x.entry(0, 0), INDEX);
        due(1, "draw()", () -> x.draw(), STATE);
        due(1, "play() of an empty slate", () -> x.play(), ARGUMENT);
        for (int kind = 0; kind <= 52; kind++) {
            int piece = kind;
            due(1, "poolIs(" + kind + ")", () -> x.poolIs(piece), 0);
        }
        due(1, "tableIs(51, true)", () -> x.tableIs(51, true), 0);
        due(1, "isWhole()", () -> bit(x.isWhole()), 1);
        due(1, "NONE", () -> Rackword.NONE, -1);
        due(1, "JOKER", () -> Rackword.JOKER, 52);
        due(1, "BLOCKING", () -> Rackword.BLOCKING, 3);
        x.player(0, 0);
        x.player(1, 0);
        due(1, "first rules: a deal of 106", () -> x.deal(0, 14, 1), 106 - 28);
        due(1, "poolIs(52) and racks", () -> x.poolIs(52) + x.rackIs(0, 52) + x.rackIs(1, 52), 2);
    }

    private static void rules() {
        Rackword x = new Rackword();
        due(2, "rules(5, 3, 0, 0, 1)", () -> x.rules(5, 3, 0, 0, 1), 40);
        due(2, "rules(13, 4, 3, 99, 9)", () -> x.rules(13, 4, 3, 99, 9), 107);
        int[][] bad = {{4, 3, 0, 0, 1}, {14, 3, 0, 0, 1}, {5, 2, 0, 0, 1}, {5, 5, 0, 0, 1}, {5, 3, -1, 0, 1},
            {5, 3, 4, 0, 1}, {5, 3, 0, -1, 1}, {5, 3, 0, 100, 1}, {5, 3, 0, 0, 0}, {5, 3, 0, 0, 10}};
        for (int[] b : bad) due(2, "rules out of range", () -> x.rules(b[0], b[1], b[2], b[3], b[4]), ARGUMENT);
        Rackword y = dealt(0, 0);
        due(2, "rules() in a round", () -> y.rules(5, 3, 0, 0, 1), STATE);
        due(2, "bad rules() in a round", () -> y.rules(5, 3, 0, 0, 0), ARGUMENT);
        Rackword w = playedOut();
        due(2, "some are left in the pool", () -> bit(w.sum(0) == -1 && w.sum(1) > 0), 1);
        w.rules(13, 3, 3, 5, 2);
        for (int i = 0; i <= 52; i++) {
            int kind = i;
            due(2, "poolIs(" + i + ")", () -> w.poolIs(kind), 0);
        }
        sums(2, w, 1, 0, 0, 0);
        Rackword z = emptiedByDrawing();
        due(2, "replayed", () -> bit(z.isReplayed()), 1);
        due(2, "claim", () -> z.claim(1, 4, 2) + z.claim(2, 4, 2), 0);
        due(2, "rules() behind a round", () -> z.rules(13, 3, 0, 0, 1), 104);
        sums(2, z, 0, -1, 0, 0, 0, 0, 0, 4, 0, 1);
        due(2, "replayed, though there was a round", () -> bit(z.isReplayed()), 1);
        due(2, "rack emptied", () -> z.playerIs(0, 5), 0);
        due(2, "claims stay", () -> z.copies(), 1L << 4);
    }

    /** Four players to whom all 40 tiles were dealt, and who drew nothing, one behind the other. */
    private static Rackword emptiedByDrawing() {
        Rackword x = new Rackword();
        x.rules(5, 3, 0, 0, 1);
        for (int i = 0; i < 4; i++) x.player(i % 2, 0);
        x.deal(11, 10, 100);
        for (int i = 0; i < 4; i++) x.draw();
        return x;
    }

    private static void player() {
        Rackword x = new Rackword();
        due(3, "player(-1, 0)", () -> x.player(-1, 0), ARGUMENT);
        due(3, "player(2, 0)", () -> x.player(2, 0), ARGUMENT);
        due(3, "player(0, -1)", () -> x.player(0, -1), ARGUMENT);
        due(3, "player(0, 4)", () -> x.player(0, 4), ARGUMENT);
        for (int i = 0; i < 4; i++) {
            int program = i;
            due(3, "player(1, " + i + ")", () -> x.player(1, program), i);
            due(3, "its program", () -> x.playerIs(program, 1), i);
            due(3, "its place", () -> x.playerIs(program, 7), i);
        }
        due(3, "a fifth", () -> x.player(0, 0), STATE);
        due(3, "a bad fifth", () -> x.player(0, 9), ARGUMENT);
        due(3, "in a round", () -> dealt(0, 0).player(0, 0), STATE);
    }

    private static void deal() {
        Rackword x = new Rackword();
        x.player(0, 0);
        due(4, "one player", () -> x.deal(0, 1, 1), STATE);
        x.player(0, 0);
        x.player(0, 0);
        int[][] bad = {{-1, 1, 1}, {65536, 1, 1}, {0, 0, 1}, {0, 15, 1}, {0, 1, 0}, {0, 1, 10000}};
        for (int[] b : bad) due(4, "deal out of range", () -> x.deal(b[0], b[1], b[2]), ARGUMENT);
        x.rules(5, 3, 1, 0, 1);
        due(4, "42 of 41", () -> x.deal(0, 14, 1), STATE);
        x.rules(5, 3, 2, 0, 1);
        due(4, "42 of 42", () -> x.deal(65535, 14, 9999), 0);
        due(4, "in a round", () -> x.deal(0, 1, 1), STATE);
        due(4, "badly in a round", () -> x.deal(0, 0, 1), ARGUMENT);
        due(4, "a clock", () -> x.playerIs(2, 3), 9999);
        sums(4, x, 0, 0, 0, 0);
        drawsByTheSeed();
        Rackword y = emptiedByDrawing();
        y.claim(0, 0, 2);
        y.claim(1, 0, 2);
        y.deal(12, 10, 77);
        due(4, "no claims in a new round", () -> y.copies() + y.claim(0, 0, 0), 0);
        due(4, "points stay", () -> y.team(0) + y.team(1), 0);
        sums(4, y, 6, 0, 0, 1);
    }

    /** The racks that the draws give, found by the words of the document over a row of all tiles. */
    private static void drawsByTheSeed() {
        Rackword x = new Rackword();
        x.player(0, 0);
        x.player(1, 0);
        x.deal(40000, 5, 10);
        StringBuilder pool = new StringBuilder();
        for (int i = 0; i < 106; i++) pool.append((char) (i < 104 ? i / 2 : 52));
        long seed = 40000;
        int[][] racks = new int[2][53];
        for (int i = 0; i < 10; i++) {
            seed = (25173 * seed + 13849) % 65536;
            int place = (int) (seed % pool.length());
            racks[i / 5][pool.charAt(place)]++;
            pool.deleteCharAt(place);
        }
        for (int kind = 0; kind <= 52; kind++) {
            int piece = kind;
            due(4, "rackIs(0, " + kind + ")", () -> x.rackIs(0, piece), racks[0][kind]);
            due(4, "rackIs(1, " + kind + ")", () -> x.rackIs(1, piece), racks[1][kind]);
        }
        due(4, "the seed", () -> x.sum(11), seed);
    }

    private static void layAndJoker() {
        Rackword x = dealt(0, 0);
        due(5, "lay(-1)", () -> x.lay(-1), ARGUMENT);
        due(5, "lay(5)", () -> x.lay(5), ARGUMENT);
        due(5, "lay(52)", () -> x.lay(52), ARGUMENT);
        due(5, "lay(2), which he has not", () -> x.lay(2), STATE);
        due(5, "lay(1)", () -> x.lay(1), 1);
        due(6, "joker(52)", () -> x.joker(52), ARGUMENT);
        due(6, "joker(1)", () -> x.joker(1), 1);
        due(5, "lay(1) where two lie", () -> x.lay(1), STATE);
        due(6, "joker(0) without one", () -> x.joker(0), STATE);
        due(8, "back()", () -> x.back(), 1);
        due(5, "lay(1) again", () -> x.lay(1), 2);
        due(6, "joker(1) where two lie", () -> x.joker(1), STATE);
        due(6, "joker(0)", () -> x.joker(0), 1);
        due(5, "lay(0) beside a joker", () -> x.lay(0), 2);
        due(5, "rackIs(0, 1)", () -> x.rackIs(0, 1), 0);
        sums(5, x, 1, 15, 4, 1, 0, 4);
        Rackword z = new Rackword();
        due(5, "lay(0) without a round", () -> z.lay(0), STATE);
        due(6, "joker(0) without a round", () -> z.joker(0), STATE);
        due(7, "swap(0) without a round", () -> z.swap(0), STATE);
        due(8, "back() without a round", () -> z.back(), STATE);
        due(9, "end() without a round", () -> z.end(), STATE);
        due(11, "tick(1) without a round", () -> z.tick(1), STATE);
        due(11, "tick(0) without a round", () -> z.tick(0), ARGUMENT);
        due(12, "auto() without a round", () -> z.auto(), STATE);
    }

    private static void swapAndBack() {
        Rackword x = melded(0, 0);
        due(7, "swap(2) without a tile of it", () -> x.swap(2), STATE);
        x.draw();
        due(7, "swap(-1)", () -> x.swap(-1), ARGUMENT);
        due(7, "swap(0), no joker as it", () -> x.swap(0), STATE);
        due(7, "swap(2)", () -> x.swap(2), 1);
        due(7, "swap(2) again", () -> x.swap(2), STATE);
        due(7, "tableIs(2)", () -> x.tableIs(2, false) * 10 + x.tableIs(2, true), 10);
        sums(7, x, 2, 9, 0, 1, 1);
        due(9, "end() with a free joker", () -> x.end(), STATE);
        due(17, "cuts(0) ahead of the free joker", () -> x.cuts(0), 2);
        due(22, "alone(4) ahead of it", () -> bit(x.alone(4)), 0);
        due(6, "the free joker as a4", () -> x.joker(3), 1);
        due(17, "cuts(0) with it: runs alone", () -> x.cuts(0), 1);
        due(22, "alone(4) with it", () -> bit(x.alone(4)), 1);
        due(6, "his own is still there", () -> x.rackIs(1, 52), 1);
        due(8, "back()", () -> x.back(), 1);
        sums(8, x, 2, 9, 0, 1, 1);
        entry(8, x, 0, 4, 1, 3, 0);
        due(8, "back() of the swap", () -> x.back(), 0);
        due(8, "tableIs(2)", () -> x.tableIs(2, false) * 10 + x.tableIs(2, true), 1);
        due(8, "the tile is back", () -> x.rackIs(1, 2), 1);
        entry(8, x, 0, 4, 1, 2, 0);
        due(8, "back() of nothing", () -> x.back(), STATE);
        x.swap(2);
        x.joker(3);
        due(9, "end()", () -> x.end(), 0);
        due(8, "back() in the next turn", () -> x.back(), STATE);
        due(33, "isReplayed()", () -> bit(x.isReplayed()), 1);
        Rackword y = dealt(0, 0);
        playAll(y, "ja3la1la2lc1lc2lc3e");
        due(7, "swap() before he melded", () -> y.swap(2), STATE);
    }

    private static void end() {
        Rackword x = dealt(0, 0);
        due(9, "end() of nothing", () -> x.end(), STATE);
        x.lay(0);
        x.lay(1);
        x.joker(2);
        due(9, "end() of 3 where 5 is the meld", () -> x.end(), STATE);
        x.lay(26);
        x.lay(27);
        due(9, "end() of what cannot be cut", () -> x.end(), STATE);
        x.lay(28);
        due(9, "end()", () -> x.end(), 1);
        due(9, "melded", () -> x.playerIs(0, 4) * 10 + x.playerIs(1, 4), 10);
        x.lay(3);
        due(9, "a tile to the others' before he melded", () -> x.end(), STATE);
        due(9, "what lies can be cut", () -> bit(x.isWhole()), 1);
        entry(9, x, 1, 5, 0, -1, 0);
        Rackword y = new Rackword();
        y.rules(5, 3, 3, 9, 1);
        y.player(0, 0);
        y.player(0, 0);
        y.deal(623, 14, 20);
        playAll(y, "la1la2ja3lc1lc2lc3");
        due(9, "a meld of just 9", () -> y.end(), 1);
        Rackword z = new Rackword();
        z.rules(5, 3, 3, 10, 1);
        z.player(0, 0);
        z.player(0, 0);
        z.deal(623, 14, 20);
        playAll(z, "la1la2ja3lc1lc2lc3");
        due(9, "a meld of 9 and a joker where it is 10", () -> z.end(), STATE);
        due(9, "a round is won by laying", () -> playedOut().sum(0), -1);
    }

    /** A round that GREEDY players play until one has laid all, while there are some in the pool. */
    private static Rackword playedOut() {
        Rackword x = new Rackword();
        for (int seed = 1; seed < 100 && x.sum(1) == 0; seed++) {
            x = new Rackword();
            x.player(0, 1);
            x.player(1, 1);
            x.player(1, 1);
            x.deal(seed, 14, 500);
            for (int i = 0; i < 300 && x.sum(0) != Rackword.NONE; i++) x.auto();
        }
        return x;
    }

    private static void roundWon() {
        Rackword x = playedOut();
        int winner = x.sum(9);
        due(9, "the rack of who won", () -> x.playerIs(winner, 5), 0);
        int others = 0;
        for (int i = 0; i < 3; i++) {
            int player = i;
            int worth = x.playerIs(i, 6);
            others += worth;
            if (i != winner) due(9, "points of who lost", () -> x.playerIs(player, 2), -worth);
        }
        int all = others;
        due(9, "points of who won", () -> x.playerIs(winner, 2), all);
        due(30, "rounds that he won", () -> x.playerIs(winner, 9), 1);
        due(30, "his place", () -> x.playerIs(winner, 7), Math.max(0, winner - 1));
        due(31, "team(0) and team(1)", () -> x.team(0) + x.team(1), 0);
        due(9, "end() behind it", () -> x.end(), STATE);
        sums(34, x, 6, 0);
        sums(34, x, 8, 1);
    }

    private static void roundEndedByDrawing() {
        Rackword x = new Rackword();
        x.rules(5, 3, 0, 0, 1);
        for (int i = 0; i < 4; i++) x.player(i % 2, 0);
        x.deal(11, 10, 100);
        for (int i = 0; i < 3; i++) {
            int next = i + 1;
            due(10, "draw() of nothing", () -> x.draw(), 0);
            sums(10, x, 6, next);
            sums(10, x, 0, next);
        }
        due(10, "the fourth", () -> x.draw(), 0);
        sums(10, x, 0, -1);
        int best = 0, all = 0;
        for (int i = 0; i < 4; i++) {
            all += x.playerIs(i, 6);
            if (x.playerIs(i, 6) < x.playerIs(best, 6)) best = i;
        }
        int winner = best, points = all - x.playerIs(best, 6);
        due(34, "who has least wins", () -> x.sum(9), winner);
        due(30, "his points", () -> x.playerIs(winner, 2), points);
        due(30, "racks stay", () -> x.playerIs(winner, 5), 10);
        due(30, "up the ladder", () -> x.playerIs(winner, 7), Math.max(0, winner - 1));
        if (winner > 0) due(30, "down the ladder", () -> x.playerIs(winner - 1, 7), winner);
        due(31, "a team", () -> x.team(winner % 2) + x.team(1 - winner % 2), 0);
        due(10, "draw() behind it", () -> x.draw(), STATE);
    }

    /** Of several with the least worth the lowest one wins. */
    private static void tieOfRacks() {
        for (int seed = 0; seed < 4000; seed++) {
            Rackword x = new Rackword();
            x.rules(5, 3, 0, 0, 1);
            for (int i = 0; i < 4; i++) x.player(0, 0);
            x.deal(seed, 10, 9);
            int least = Math.min(Math.min(x.playerIs(0, 6), x.playerIs(1, 6)), Math.min(x.playerIs(2, 6), x.playerIs(3, 6)));
            if (x.playerIs(1, 6) != least || x.playerIs(3, 6) != least || x.playerIs(0, 6) == least) continue;
            for (int i = 0; i < 4; i++) x.draw();
            due(10, "of several the lowest one", () -> x.sum(9), 1);
            due(30, "the other one loses", () -> x.playerIs(3, 2), -least);
            due(30, "up the ladder", () -> x.playerIs(1, 7) * 10 + x.playerIs(0, 7), 1);
            return;
        }
        due(10, "a seed with a tie", () -> 0, 1);
    }

    private static void draw() {
        Rackword x = melded(0, 0);
        int seed = (25173 * x.sum(11) + 13849) % 65536;
        int place = seed % 15;
        int kind = 0;
        while (kind < 52 && (kind % 13 > 4 || place >= x.poolIs(kind))) {
            place -= kind % 13 > 4 ? 0 : x.poolIs(kind);
            kind++;
        }
        int drawn = kind;
        int before = x.rackIs(0, kind);
        due(10, "draw()", () -> x.draw(), 1);
        due(10, "the seed", () -> x.sum(11), seed);
        due(10, "what was drawn", () -> x.rackIs(0, drawn), before + 1);
        sums(10, x, 0, 1, 14, 9);
        entry(10, x, 0, 6, 0, -1, 1);
        x.draw();
        x.lay(14);
        due(10, "draw() with something laid", () -> x.draw(), 2);
        entry(10, x, 0, 6, 0, -1, 2);
        due(10, "the tile is taken back", () -> x.tableIs(14, false), 1);
        sums(10, x, 4, 0, 0, 0);
        due(33, "isReplayed()", () -> bit(x.isReplayed()), 1);
        Rackword y = new Rackword();
        y.player(0, 0);
        y.player(0, 0);
        y.deal(5, 14, 20);
        for (int i = 0; i < 20; i++) y.draw();
        due(10, "a rack of 24", () -> y.playerIs(0, 5), 24);
        int stays = y.sum(11);
        due(10, "draw() into a rack of 24", () -> y.draw(), 0);
        due(10, "the seed stays", () -> y.sum(11), stays);
        due(10, "the pool stays", () -> y.sum(1), 106 - 48);
    }

    private static void tick() {
        Rackword x = dealt(0, 0);
        due(11, "tick(0)", () -> x.tick(0), ARGUMENT);
        due(11, "tick(1000)", () -> x.tick(1000), ARGUMENT);
        due(11, "tick(7)", () -> x.tick(7), 13);
        sums(11, x, 0, 0);
        x.lay(0);
        due(11, "tick(13)", () -> x.tick(13), 0);
        sums(11, x, 0, 1);
        entry(11, x, 0, 7, 0, -1, 2);
        due(11, "the tile is taken back", () -> x.rackIs(0, 0), 1);
        due(11, "tick(999)", () -> x.tick(999), 0);
        entry(11, x, 0, 7, 1, -1, 1);
        due(11, "a clock with 0", () -> x.tick(1), 0);
        due(11, "its player", () -> x.playerIs(0, 3), 0);
        sums(11, x, 0, 1);
    }

    private static void auto() {
        Rackword x = dealt(0, 1);
        due(12, "auto() of HUMAN", () -> x.auto(), STATE);
        x.draw();
        x.lay(0);
        due(12, "auto() with something laid", () -> x.auto(), STATE);
        x.back();
        int size = x.best(1, 0);
        due(12, "auto()", () -> x.auto(), size);
        entry(12, x, 0, 5, 1, -1, 0);
        Rackword y = melded(3, 2);
        due(12, "BLOCKING lays c4", () -> y.auto(), 1);
        entry(12, y, 1, 1, 0, 29, 0);
        byTheRules(1);
        byTheRules(2);
        byTheRules(3);
    }

    /** Programs among themselves: each turn is foretold from what the class says of plans and of kinds alone. */
    private static void byTheRules(int program) {
        int some = 0;
        for (int seed = 1; seed < 12; seed++) {
            Rackword x = new Rackword();
            x.rules(7, 3, 2, 20, 2);
            x.player(0, program);
            x.player(1, 1);
            x.player(1, program);
            x.deal(seed * 1001, 12, 500);
            for (int i = 0; i < 40 && x.sum(0) != Rackword.NONE; i++) {
                int want = foretold(x, x.sum(0));
                some += want > 0 ? 1 : 0;
                due(12, "auto() of a program", () -> x.auto(), want);
            }
        }
        int laid = some;
        due(12, "some lay, of program " + program, () -> bit(laid > 10), 1);
    }

    private static int foretold(Rackword x, int player) {
        int program = x.playerIs(player, 1);
        boolean melded = x.playerIs(player, 4) == 1;
        if (program == Rackword.BLOCKING && melded) {
            for (int kind = 0; kind < 52; kind++) {
                if (kind % 13 < 7 && x.rackIs(player, kind) > 0 && x.alone(kind)) return 1;
            }
            return 0;
        }
        int size = x.best(player, 0);
        if (size <= 0 || !melded && x.best(player, 1) < 20) return 0;
        if (program == Rackword.SAVING && size < 3 && size != x.playerIs(player, 5)) return 0;
        return size;
    }

    private static void notation() {
        Rackword x = dealt(0, 0);
        due(13, "type('A')", () -> x.type('A'), ARGUMENT);
        due(13, "type('`')", () -> x.type('`'), ARGUMENT);
        due(13, "type('{')", () -> x.type('{'), ARGUMENT);
        due(13, "type('/')", () -> x.type('/'), ARGUMENT);
        due(13, "type(':')", () -> x.type(':'), ARGUMENT);
        for (int i = 1; i <= 40; i++) {
            char sign = "az09".charAt(i % 4);
            due(13, "type()", () -> x.type(sign), i);
        }
        due(13, "a 41st sign", () -> x.type('a'), STATE);
        due(13, "a bad 41st sign", () -> x.type(' '), ARGUMENT);
        sums(13, x, 10, 40);
        due(14, "wipe()", () -> x.wipe(), 40);
        due(14, "wipe() again", () -> x.wipe(), 0);
        for (String bad : new String[] {"", "x", "l", "la", "l1", "le", "la0", "la01", "la6", "la10", "la14", "la100", "la1a", "a1",
            "lea1", "e1", "la1le1", "t2", "la19"}) {
            due(15, "play() of " + bad, () -> playAll(x, bad), ARGUMENT);
            sums(15, x, 10, bad.length());
        }
        due(15, "until one would throw", () -> playAll(x, "la1la1la2"), 1);
        sums(15, x, 10, 0);
        due(15, "a turn and more", () -> playAll(x, "tla1la2ja3lc1lc2lc3elb1lb2lb3ew"), 13);
        sums(15, x, 0, 1);
        due(15, "a swap, and the joker laid anew", () -> playAll(x, "sa3ja4ttsa3ja4e"), 7);
        due(15, "two draws", () -> playAll(x, "ww"), 2);
        Rackword z = new Rackword();
        due(15, "play() without a round", () -> playAll(z, "w"), STATE);
        sums(15, z, 10, 1);
        due(15, "two digits", () -> playAll(z, "ld13"), STATE);
        due(15, "a 0 behind a 1", () -> playAll(z, "ld10"), STATE);
        due(15, "kind 14 of 13", () -> playAll(z, "ld14"), ARGUMENT);
        Rackword y = emptiedByDrawing();
        y.rules(5, 3, 0, 0, 1);
        y.deal(3, 10, 9);
        due(15, "until the round ends", () -> playAll(y, "wwwwww"), 4);
    }

    private static void cuts() {
        Rackword x = melded(0, 0);
        due(16, "isWhole()", () -> bit(x.isWhole()), 1);
        due(17, "cuts(0), three runs or three groups", () -> x.cuts(0), 2);
        due(17, "cuts(1)", () -> x.cuts(1), 3);
        due(17, "cuts(2)", () -> x.cuts(2), 3);
        due(17, "cuts(-1)", () -> x.cuts(-1), ARGUMENT);
        due(17, "cuts(3)", () -> x.cuts(3), ARGUMENT);
        due(18, "cutsAnew()", () -> x.cutsAnew(), 2);
        due(19, "states(0)", () -> x.states(0), ARGUMENT);
        due(19, "states(6)", () -> x.states(6), ARGUMENT);
        due(19, "states(1)", () -> x.states(1), 2);
        // three runs of 1, of 2 or of 3 behind groups of what is lower, or groups alone
        due(19, "states(2)", () -> x.states(2), 3);
        due(19, "states(3)", () -> x.states(3), 4);
        due(19, "states(4)", () -> x.states(4), 1);
        x.lay(4);
        due(16, "isWhole() with a5", () -> bit(x.isWhole()), 0);
        due(17, "cuts(0) with a5", () -> x.cuts(0), 0);
        due(17, "cuts(1) with a5", () -> x.cuts(1), -1);
        due(17, "cuts(2) with a5", () -> x.cuts(2), -1);
        due(18, "cutsAnew() with a5", () -> x.cutsAnew(), 0);
        due(19, "states(5) with a5", () -> x.states(5), 1);
        x.draw();
        playAll(x, "ja4la4la5lb4lb4");
        due(18, "14 lie", () -> x.sum(2) * 10 + bit(x.cutsAnew() >= 0), 141);
        x.lay(28);
        due(18, "cutsAnew() of 15", () -> x.cutsAnew(), STATE);
        longRun();
        manyOfOneNumber();
        threeAtTheHighest();
    }

    /** 11 12 13 of a colour are a run, 12 13 and the 1 of the next colour are none. */
    private static void threeAtTheHighest() {
        int found = 0;
        for (int seed = 0; seed < 65536 && found < 20; seed++) {
            Rackword x = new Rackword();
            x.player(0, 0);
            x.player(0, 0);
            x.deal(seed, 14, 9);
            int first = found % 2 == 0 ? 10 : 11;
            if (x.rackIs(0, first) * x.rackIs(0, first + 1) * x.rackIs(0, first + 2) == 0) continue;
            found++;
            for (int i = 0; i < 3; i++) x.lay(first + i);
            int want = first == 10 ? 1 : 0;
            due(16, "isWhole() with 12 13", () -> bit(x.isWhole()), want);
            due(17, "cuts(0) with 12 13", () -> x.cuts(0), want);
            due(18, "cutsAnew() with 12 13", () -> x.cutsAnew(), want);
        }
        int seeds = found;
        due(18, "seeds with 12 13", () -> seeds, 20);
    }

    /** One of a colour and two of the three others: a group of four and one of three, and no other cut. */
    private static void manyOfOneNumber() {
        int found = 0;
        for (int seed = 0; seed < 65536 && found < 2; seed++) {
            Rackword x = new Rackword();
            x.rules(5, 3, 3, 0, 1);
            x.player(0, 0);
            x.player(0, 0);
            x.deal(seed, 14, 9);
            int[] kinds = {0, 13, 13, 26, 26, 39, 39};
            int lacking = 0;
            for (int colour = 0; colour < 4; colour++) {
                lacking += Math.max(0, (colour == 0 ? 1 : 2) - x.rackIs(0, 13 * colour));
            }
            if (lacking > x.rackIs(0, 52)) continue;
            found++;
            for (int kind : kinds) {
                if (x.rackIs(0, kind) > 0) x.lay(kind);
                else x.joker(kind);
            }
            due(16, "isWhole() of seven of one number", () -> bit(x.isWhole()), 1);
            due(17, "cuts(0) of seven of one number", () -> x.cuts(0), 1);
            due(17, "cuts(1) of seven of one number", () -> x.cuts(1), 2);
            due(17, "cuts(2) of seven of one number", () -> x.cuts(2), 2);
            due(18, "cutsAnew() of seven of one number", () -> x.cutsAnew(), 1);
        }
        int seeds = found;
        due(17, "seeds with seven of one number", () -> seeds, 2);
    }

    /** A run of 7 is cut in as many ways as 7 is a row of numbers from 3 on: 7, 3 4, 4 3. */
    private static void longRun() {
        Rackword y = new Rackword();
        for (int seed = 0; seed < 65536; seed++) {
            y = new Rackword();
            y.player(0, 0);
            y.player(0, 0);
            y.deal(seed, 14, 9);
            if (longRunIn(y, 7) >= 0) break;
        }
        dueOfRun(y, longRunIn(y, 7));
    }

    private static void dueOfRun(Rackword y, int from) {
        for (int i = 0; i < 7; i++) y.lay(from + i);
        due(17, "cuts(0) of a run of 7", () -> y.cuts(0), 3);
        due(17, "cuts(1) of a run of 7", () -> y.cuts(1), 1);
        due(17, "cuts(2) of a run of 7", () -> y.cuts(2), 2);
        due(18, "cutsAnew() of a run of 7", () -> y.cutsAnew(), 3);
    }

    private static int longRunIn(Rackword x, int length) {
        for (int kind = 0; kind + length <= 52; kind++) {
            int many = 0;
            while (many < length && x.rackIs(0, kind + many) > 0) many++;
            if (many == length && kind % 13 + length <= 13) return kind;
        }
        return -1;
    }

    private static void plans() {
        Rackword x = melded(0, 0);
        due(20, "best(-1, 0)", () -> x.best(-1, 0), INDEX);
        due(20, "best(2, 0)", () -> x.best(2, 0), INDEX);
        due(20, "best(2, 2)", () -> x.best(2, 2), INDEX);
        due(20, "best(0, 2)", () -> x.best(0, 2), ARGUMENT);
        due(20, "best(0, -1)", () -> x.best(0, -1), ARGUMENT);
        due(21, "plan(2, 0)", () -> x.plan(2, 0), INDEX);
        due(21, "plan(0, -1)", () -> x.plan(0, -1), ARGUMENT);
        due(21, "plan(0, 24)", () -> x.plan(0, 24), -1);
        due(21, "plan(0, 1000000)", () -> x.plan(0, Integer.MAX_VALUE), -1);
        int size = x.best(0, 0);
        int worth = 0;
        for (int i = 0; i < size; i++) worth += x.plan(0, i) % 13 + 1;
        int sum = worth;
        due(20, "the worth of the plan", () -> x.best(0, 1), sum);
        due(21, "behind the plan", () -> x.plan(0, size), -1);
        Rackword y = dealt(0, 0);
        // a2 b2 c2 and c3 c4 c5, 18; c1 to c5 were 15
        int[] plan = {1, 14, 27, 28, 29, 30, -1};
        due(21, "plan() ahead of best()", () -> dealt(0, 0).plan(0, 5), 30);
        due(20, "best() of who has not melded", () -> y.best(0, 1), 18);
        due(20, "its tiles", () -> y.best(0, 0), 6);
        for (int i = 0; i < plan.length; i++) {
            int place = i;
            due(21, "plan(0, " + i + ")", () -> y.plan(0, place), plan[i]);
        }
        y.lay(0);
        due(20, "not melded: what lies does not count", () -> y.best(0, 1), 18);
        Rackword z = melded(0, 0);
        z.lay(4);
        due(20, "best(1, 0): no plan heals a5 but a4", () -> z.best(1, 0) > 0 ? 1 : 0, 1);
        playAll(z, "lb2");
        due(20, "no plan", () -> z.best(0, 0) == -1 && z.plan(0, 0) == -1 && z.best(0, 1) == -1 ? 1 : 0, 1);
    }

    private static void othersHold() {
        Rackword x = melded(0, 0);
        long alone = 1L << 3 | 1L << 16 | 1L << 29 | 1L << 39 | 1L << 40 | 1L << 41;
        due(22, "alone(5)", () -> bit(x.alone(5)), ARGUMENT);
        due(22, "alone(52)", () -> bit(x.alone(52)), ARGUMENT);
        due(24, "passed(2, 0)", () -> bit(x.passed(2, 0)), INDEX);
        due(24, "passed(0, 52)", () -> bit(x.passed(0, 52)), ARGUMENT);
        due(24, "nothing passed yet", () -> bit(x.passed(0, 3)), 0);
        for (int i = 0; i < 52; i++) {
            int kind = i;
            if (i % 13 < 5) due(22, "alone(" + i + ")", () -> bit(x.alone(kind)), alone >> i & 1);
        }
        x.draw();
        due(30, "fresh", () -> x.playerIs(0, 8), 1);
        for (int i = 0; i < 52; i++) {
            int kind = i;
            if (i % 13 < 5) due(24, "passed(0, " + i + ")", () -> bit(x.passed(0, kind)), alone >> i & 1);
        }
        chances(x);
        x.swap(2);
        x.joker(3);
        x.end();
        x.lay(14);
        x.draw();
        due(24, "a penalty passes nothing anew", () -> bit(x.passed(0, 3)), 1);
        due(30, "fresh with the penalty", () -> x.playerIs(0, 8), 3);
        x.draw();
        x.draw();
        due(24, "a4 lies there with a5 next", () -> bit(x.passed(0, 3)) * 10 + bit(x.passed(0, 4)), 1);
        due(30, "fresh anew", () -> x.playerIs(0, 8), 1);
    }

    private static void chances(Rackword x) {
        // from the player 1, 14 in the pool and 9 in the rack of the player 0 are hidden
        due(23, "chance of a4, passed, 1 fresh", () -> x.chance(1, 0, 3), 43);
        due(23, "chance of a5, not passed", () -> x.chance(1, 0, 4), 391);
        due(23, "chance of a joker", () -> x.chance(1, 0, 52), 391);
        due(23, "chance of a1, none hidden", () -> x.chance(1, 0, 0), 0);
        // two d1 of 23, 1 fresh: 1000 * (23 * 22 - 22 * 21) / (23 * 22)
        due(23, "chance of d1, two hidden, passed", () -> x.chance(1, 0, 39), 86);
        // two b5 of 23: 1000 * (23 * 22 - 14 * 13) / (23 * 22)
        due(23, "chance of b5, two hidden", () -> x.chance(1, 0, 17), 640);
        due(23, "chance(2, 0, 0)", () -> x.chance(2, 0, 0), INDEX);
        due(23, "chance(0, -1, 0)", () -> x.chance(0, -1, 0), INDEX);
        due(23, "chance(2, 2, 99)", () -> x.chance(2, 2, 99), INDEX);
        due(23, "chance(0, 0, 0)", () -> x.chance(0, 0, 0), ARGUMENT);
        due(23, "chance(0, 1, 5)", () -> x.chance(0, 1, 5), ARGUMENT);
        due(23, "chance(0, 1, 53)", () -> x.chance(0, 1, 53), ARGUMENT);
    }

    private static void claims() {
        Rackword x = dealt(0, 0);
        due(25, "claim(2, 0, 0)", () -> x.claim(2, 0, 0), INDEX);
        due(25, "claim(0, 5, 0)", () -> x.claim(0, 5, 0), ARGUMENT);
        due(25, "claim(0, 52, 0)", () -> x.claim(0, 52, 0), ARGUMENT);
        due(25, "claim(0, 0, 3)", () -> x.claim(0, 0, 3), ARGUMENT);
        due(25, "claim(0, 0, -1)", () -> x.claim(0, 0, -1), ARGUMENT);
        due(25, "claim(0, 0, 2)", () -> x.claim(0, 0, 2), 0);
        due(25, "claim(0, 0, 1)", () -> x.claim(0, 0, 1), 2);
        due(25, "claim(1, 0, 1)", () -> x.claim(1, 0, 1), 0);
        due(26, "two are no copy", () -> x.copies(), 0);
        x.lay(0);
        due(26, "a tile besides", () -> x.copies(), 1);
        x.back();
        x.joker(0);
        due(26, "a joker does not count", () -> x.copies(), 0);
        x.claim(0, 43, 2);
        x.claim(1, 43, 1);
        x.claim(1, 0, 2);
        due(26, "d5, and a1", () -> x.copies(), 1L << 43 | 1);
    }

    private static void told() {
        Rackword x = melded(0, 0);
        due(27, "rackIs(0, 29)", () -> x.rackIs(0, 29), 2);
        due(27, "rackIs(1, 52)", () -> x.rackIs(1, 52), 1);
        due(27, "rackIs(2, 0)", () -> x.rackIs(2, 0), INDEX);
        due(27, "rackIs(2, 99)", () -> x.rackIs(2, 99), INDEX);
        due(27, "rackIs(0, 53)", () -> x.rackIs(0, 53), ARGUMENT);
        due(27, "rackIs(0, 12)", () -> x.rackIs(0, 12), ARGUMENT);
        due(28, "tableIs(2)", () -> x.tableIs(2, false) * 10 + x.tableIs(2, true), 1);
        due(28, "tableIs(26)", () -> x.tableIs(26, false) * 10 + x.tableIs(26, true), 10);
        due(28, "tableIs(52)", () -> x.tableIs(52, true), ARGUMENT);
        due(28, "tableIs(-1)", () -> x.tableIs(-1, false), ARGUMENT);
        due(29, "poolIs(17), b5", () -> x.poolIs(17), 2);
        due(29, "poolIs(52)", () -> x.poolIs(52), 1);
        due(29, "poolIs(0)", () -> x.poolIs(0), 0);
        due(29, "poolIs(53)", () -> x.poolIs(53), ARGUMENT);
        due(29, "poolIs(5)", () -> x.poolIs(5), ARGUMENT);
        long[] first = {0, 0, 0, 20, 1, 8, 29, 0, 0, 0};
        for (int i = 0; i < first.length; i++) {
            int what = i;
            due(30, "playerIs(0, " + i + ")", () -> x.playerIs(0, what), first[i]);
        }
        due(30, "the worth with a joker", () -> x.playerIs(1, 6), 1 + 3 + 4 + 5 + 3 + 4 + 4 + 3 + 2 + 4 + 30);
        due(30, "playerIs(0, 10)", () -> x.playerIs(0, 10), ARGUMENT);
        due(30, "playerIs(0, -1)", () -> x.playerIs(0, -1), ARGUMENT);
        due(30, "playerIs(2, 10)", () -> x.playerIs(2, 10), INDEX);
        due(31, "team(2)", () -> x.team(2), ARGUMENT);
        due(31, "team(-1)", () -> x.team(-1), ARGUMENT);
        due(31, "team(0)", () -> x.team(0), 0);
        entry(32, x, 0, 5, 1, -1, 0);
        entry(32, x, 1, 1, 1, 15, 0);
        entry(32, x, 8, 2, 0, 2, 0);
        entry(32, x, 10, 1, 0, 0, 0);
        due(32, "entry(11, 0)", () -> x.entry(11, 0), INDEX);
        due(32, "entry(-1, 9)", () -> x.entry(-1, 9), INDEX);
        due(32, "entry(0, 4)", () -> x.entry(0, 4), ARGUMENT);
        due(32, "entry(0, -1)", () -> x.entry(0, -1), ARGUMENT);
        due(33, "isReplayed()", () -> bit(x.isReplayed()), 1);
        sums(34, x, 0, 0, 15, 9, 1, 0, 0, 0, 11, 0, -1, 0);
        due(34, "sum(12)", () -> x.sum(12), ARGUMENT);
        due(34, "sum(-1)", () -> x.sum(-1), ARGUMENT);
    }

    public static void main(String[] args) {
        newObject();
        rules();
        player();
        deal();
        layAndJoker();
        swapAndBack();
        end();
        roundWon();
        roundEndedByDrawing();
        tieOfRacks();
        draw();
        tick();
        auto();
        notation();
        cuts();
        plans();
        othersHold();
        claims();
        told();
        System.out.println(asked + " answers asked for, " + wrong + " wrong");
        if (wrong > 0) System.exit(1);
    }
}
