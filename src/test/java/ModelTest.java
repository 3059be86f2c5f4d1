import java.util.ArrayList;
import java.util.List;
import java.util.Random;

/** Plays long random rounds on the class and on the model at once, and compares every answer. */
public final class ModelTest {
    private Rackword real;
    private Model model;
    private Random random;
    private final List<String> calls = new ArrayList<>();
    private static int wrong = 0;
    private static long compared = 0;
    private static long plans = 0;
    private static int cutShort = 0;

    private interface Call {
        long answer();
    }

    private static String outcome(Call call) {
        try {
            return Long.toString(call.answer());
        } catch (RuntimeException e) {
            return "throws." + e.getClass().getSimpleName();
        }
    }

    private long same(String name, Call ofReal, Call ofModel) {
        String want = outcome(ofModel);
        String got = outcome(ofReal);
        calls.add(name + " = " + got);
        compared++;
        if (!got.equals(want)) {
            wrong++;
            System.out.println("answered " + got + ", the model " + want + ", by the last of:");
            for (String call : calls.subList(Math.max(0, calls.size() - 60), calls.size())) System.out.println("  " + call);
            throw new AssertionError();
        }
        return want.startsWith("throws") ? Long.MIN_VALUE : Long.parseLong(want);
    }

    private static long bit(boolean value) {
        return value ? 1 : 0;
    }

    private int pick(int from, int to) {
        return from + random.nextInt(to - from + 1);
    }

    private int someKind() {
        int way = random.nextInt(20);
        if (way == 0) return pick(-2, 60);
        return 13 * random.nextInt(4) + random.nextInt(model.highest);
    }

    private int somePlayer() {
        return random.nextInt(25) == 0 ? pick(-2, 5) : random.nextInt(Math.max(1, model.seats.size()));
    }

    // ---- turns

    private void lay(int kind) {
        same("lay(" + kind + ")", () -> real.lay(kind), () -> model.lay(kind));
    }

    private void joker(int kind) {
        same("joker(" + kind + ")", () -> real.joker(kind), () -> model.joker(kind));
    }

    private void swap(int kind) {
        same("swap(" + kind + ")", () -> real.swap(kind), () -> model.swap(kind));
    }

    private void end() {
        same("end()", () -> real.end(), () -> model.end());
    }

    private void auto() {
        if (model.turn != Model.NONE && random.nextInt(4) == 0) comparePlan(model.turn);
        same("auto()", () -> real.auto(), () -> model.auto());
    }

    private List<Integer> planOfReal(int player) {
        if (real.best(player, 0) == Rackword.NONE) return null;
        List<Integer> plan = new ArrayList<>();
        for (int i = 0; i < real.best(player, 0); i++) plan.add(real.plan(player, i));
        return plan;
    }

    private void comparePlan(int player) {
        long size = same("best(" + player + ", 0)", () -> real.best(player, 0), () -> model.best(player, 0));
        if (size == Long.MIN_VALUE) return;
        plans++;
        same("best(" + player + ", 1)", () -> real.best(player, 1), () -> model.best(player, 1));
        for (int i = 0; i <= size; i++) {
            int place = i;
            same("plan(" + player + ", " + i + ")", () -> real.plan(player, place), () -> model.plan(player, place));
        }
    }

    /** Lays a set of which the rack, and its jokers, have all. */
    private void laySet() {
        if (model.turn == Model.NONE) return;
        Model.Seat seat = model.seats.get(model.turn);
        for (int tries = 0; tries < 60; tries++) {
            int[] set = model.sets.get(random.nextInt(model.sets.size()));
            int jokers = model.free + model.inRack(seat, Model.JOKER);
            int lacking = 0;
            boolean fits = true;
            for (int kind : set) {
                if (!seat.rack.contains(kind)) lacking++;
                if (model.lies(kind) > 1) fits = false;
            }
            if (!fits || lacking > jokers) continue;
            for (int kind : set) {
                if (seat.rack.contains(kind)) lay(kind);
                else joker(kind);
            }
            return;
        }
    }

    private void swapSome() {
        for (int kind = 0; kind < 52; kind++) {
            if (model.turn != Model.NONE && model.jokers[kind] > 0
                    && model.seats.get(model.turn).rack.contains(kind)) {
                swap(kind);
                return;
            }
        }
        swap(someKind());
    }

    private void layAny() {
        if (model.turn == Model.NONE || random.nextInt(10) == 0) {
            lay(someKind());
            return;
        }
        List<Integer> rack = model.seats.get(model.turn).rack;
        int kind = rack.isEmpty() ? 0 : rack.get(random.nextInt(rack.size()));
        if (kind == Model.JOKER) joker(someKind());
        else lay(kind);
    }

    private void layPlan() {
        if (model.turn == Model.NONE) return;
        int player = model.turn;
        for (int kind : planOrNone(player)) lay(kind);
        end();
    }

    private List<Integer> planOrNone(int player) {
        List<Integer> plan = planOfReal(player);
        return plan == null ? new ArrayList<>() : plan;
    }

    private void turn() {
        switch (random.nextInt(16)) {
            case 0: case 1: laySet(); break;
            case 2: laySet(); end(); break;
            case 3: swapSome(); if (random.nextInt(2) == 0) { laySet(); end(); } break;
            case 4: layAny(); break;
            case 5: same("back()", () -> real.back(), () -> model.back()); break;
            case 6: end(); break;
            case 7: same("draw()", () -> real.draw(), () -> model.draw()); break;
            case 8: {
                int seconds = random.nextInt(20) == 0 ? pick(-1, 1001) : pick(1, 60);
                same("tick(" + seconds + ")", () -> real.tick(seconds), () -> model.tick(seconds));
                break;
            }
            case 9: joker(someKind()); break;
            case 10: layPlan(); break;
            case 11: notation(); break;
            default: auto();
        }
    }

    private void notation() {
        StringBuilder text = new StringBuilder();
        for (int i = pick(0, 4); i >= 0; i--) text.append(someMove());
        if (random.nextInt(6) == 0) text.append((char) pick(40, 127));
        if (random.nextInt(6) == 0) text.setLength(random.nextInt(text.length() + 1));
        for (char sign : text.toString().toCharArray()) {
            same("type('" + sign + "')", () -> real.type(sign), () -> model.type(sign));
        }
        same("play()", () -> real.play(), () -> model.play());
        if (random.nextInt(3) > 0) same("wipe()", () -> real.wipe(), () -> model.wipe());
    }

    private String someMove() {
        String kind = "" + "abcd".charAt(random.nextInt(4)) + pick(1, model.highest + (random.nextInt(15) == 0 ? 3 : 0));
        if (model.turn != Model.NONE && random.nextInt(2) == 0) {
            for (int tile : model.seats.get(model.turn).rack) {
                if (tile != Model.JOKER && random.nextInt(3) == 0) kind = "" + "abcd".charAt(tile / 13) + (tile % 13 + 1);
            }
        }
        switch (random.nextInt(12)) {
            case 0: return "t";
            case 1: return "e";
            case 2: return "w";
            case 3: case 4: return "j" + kind;
            case 5: return "s" + kind;
            case 6: return random.nextInt(10) == 0 ? "la0" + kind : "l" + kind;
            default: return "l" + kind;
        }
    }

    // ---- questions

    private void ask() {
        int kind = someKind();
        int player = somePlayer();
        switch (random.nextInt(15)) {
            case 0: same("isWhole()", () -> bit(real.isWhole()), () -> bit(model.isWhole())); break;
            case 1: {
                int what = random.nextInt(12) == 0 ? pick(-1, 4) : pick(0, 2);
                same("cuts(" + what + ")", () -> real.cuts(what), () -> model.cuts(what));
                break;
            }
            case 2: same("cutsAnew()", () -> real.cutsAnew(), () -> model.cutsAnew()); break;
            case 3: {
                int number = random.nextInt(12) == 0 ? pick(-1, 15) : pick(1, model.highest);
                if (number > model.highest || model.sum(2) < 30) {
                    same("states(" + number + ")", () -> real.states(number), () -> model.states(number));
                }
                break;
            }
            case 4: {
                if (player >= 0 && player < model.seats.size()) comparePlan(player);
                int what = pick(-1, 2);
                same("best(" + player + ", " + what + ")", () -> real.best(player, what), () -> model.best(player, what));
                int place = pick(-1, 3);
                same("plan(" + player + ", " + place + ")", () -> real.plan(player, place), () -> model.plan(player, place));
                break;
            }
            case 5: same("alone(" + kind + ")", () -> bit(real.alone(kind)), () -> bit(model.alone(kind))); break;
            case 6: {
                int other = somePlayer();
                int thing = random.nextInt(5) == 0 ? 52 : kind;
                same("chance(" + player + ", " + other + ", " + thing + ")",
                    () -> real.chance(player, other, thing), () -> model.chance(player, other, thing));
                break;
            }
            case 7: same("passed(" + player + ", " + kind + ")",
                () -> bit(real.passed(player, kind)), () -> bit(model.passed(player, kind))); break;
            case 8: {
                int many = random.nextInt(12) == 0 ? pick(-1, 4) : pick(0, 2);
                same("claim(" + player + ", " + kind + ", " + many + ")",
                    () -> real.claim(player, kind, many), () -> model.claim(player, kind, many));
                break;
            }
            case 9: {
                int thing = random.nextInt(5) == 0 ? 52 : kind;
                same("rackIs(" + player + ", " + thing + ")", () -> real.rackIs(player, thing), () -> model.rackIs(player, thing));
                same("poolIs(" + thing + ")", () -> real.poolIs(thing), () -> model.poolIs(thing));
                break;
            }
            case 10: same("tableIs(" + kind + ")", () -> real.tableIs(kind, false), () -> model.tableIs(kind, false));
                same("tableIs(" + kind + ", true)", () -> real.tableIs(kind, true), () -> model.tableIs(kind, true)); break;
            case 11: {
                int what = pick(-1, 10);
                same("playerIs(" + player + ", " + what + ")", () -> real.playerIs(player, what), () -> model.playerIs(player, what));
                break;
            }
            case 12: {
                int team = random.nextInt(8) == 0 ? pick(-1, 2) : pick(0, 1);
                same("team(" + team + ")", () -> real.team(team), () -> model.team(team));
                break;
            }
            case 13: {
                int place = pick(-1, 20);
                int what = random.nextInt(8) == 0 ? pick(-1, 4) : pick(0, 3);
                same("entry(" + place + ", " + what + ")", () -> real.entry(place, what), () -> model.entry(place, what));
                break;
            }
            default: {
                int what = pick(-1, 12);
                same("sum(" + what + ")", () -> real.sum(what), () -> model.sum(what));
            }
        }
    }

    private void everything() {
        same("isReplayed()", () -> bit(real.isReplayed()), () -> 1);
        same("copies()", () -> real.copies(), () -> model.copies());
        same("isWhole()", () -> bit(real.isWhole()), () -> bit(model.isWhole()));
        for (int i = 0; i <= 11; i++) {
            int what = i;
            same("sum(" + what + ")", () -> real.sum(what), () -> model.sum(what));
        }
        everythingOfCuts();
        for (int i = 0; i < model.seats.size(); i++) everythingOf(i);
        for (int i = 0; i < 52; i++) {
            int kind = i;
            same("alone(" + kind + ")", () -> bit(real.alone(kind)), () -> bit(model.alone(kind)));
            same("tableIs(" + kind + ")", () -> real.tableIs(kind, false), () -> model.tableIs(kind, false));
            same("tableIs(" + kind + ", true)", () -> real.tableIs(kind, true), () -> model.tableIs(kind, true));
            same("poolIs(" + kind + ")", () -> real.poolIs(kind), () -> model.poolIs(kind));
        }
        for (int i = 0; i <= Math.min(model.record.size(), 30); i++) {
            for (int j = 0; j < 4; j++) {
                int place = i, what = j;
                same("entry(" + place + ", " + what + ")", () -> real.entry(place, what), () -> model.entry(place, what));
            }
        }
    }

    private void everythingOfCuts() {
        for (int i = 0; i <= 2; i++) {
            int what = i;
            same("cuts(" + what + ")", () -> real.cuts(what), () -> model.cuts(what));
        }
        same("cutsAnew()", () -> real.cutsAnew(), () -> model.cutsAnew());
        for (int i = 1; i <= model.highest && model.sum(2) < 30; i++) {
            int number = i;
            same("states(" + number + ")", () -> real.states(number), () -> model.states(number));
        }
    }

    private void everythingOf(int player) {
        for (int i = 0; i <= 9; i++) {
            int what = i;
            same("playerIs(" + player + ", " + what + ")", () -> real.playerIs(player, what), () -> model.playerIs(player, what));
        }
        for (int i = 0; i <= 52; i++) {
            int kind = i;
            same("rackIs(" + player + ", " + kind + ")", () -> real.rackIs(player, kind), () -> model.rackIs(player, kind));
            same("passed(" + player + ", " + kind + ")", () -> bit(real.passed(player, kind)), () -> bit(model.passed(player, kind)));
            for (int j = 0; j < model.seats.size(); j++) {
                int other = j;
                same("chance(" + player + ", " + other + ", " + kind + ")",
                    () -> real.chance(player, other, kind), () -> model.chance(player, other, kind));
            }
        }
    }

    // ---- a run

    private void tellRules(int most) {
        boolean good = random.nextInt(6) > 0;
        int highest = good ? pick(5, most) : pick(4, 14);
        int least = good ? pick(3, 4) : pick(2, 5);
        int jokers = good ? pick(0, 3) : pick(-1, 4);
        int meld = good ? pick(0, 3) * 10 : pick(-1, 100);
        int penalty = good ? pick(1, 9) : pick(0, 10);
        same("rules(" + highest + ", " + least + ", " + jokers + ", " + meld + ", " + penalty + ")",
            () -> real.rules(highest, least, jokers, meld, penalty), () -> model.rules(highest, least, jokers, meld, penalty));
    }

    private void addPlayer() {
        boolean good = random.nextInt(6) > 0;
        int team = good ? pick(0, 1) : pick(-1, 2);
        int program = good ? pick(0, 3) : pick(-1, 4);
        same("player(" + team + ", " + program + ")", () -> real.player(team, program), () -> model.player(team, program));
    }

    private void deal() {
        boolean good = random.nextInt(6) > 0;
        int seed = good ? pick(0, 65535) : pick(-2, 65540);
        int each = good ? pick(5, 14) : pick(0, 15);
        int seconds = good ? pick(50, 400) : pick(0, 10000);
        same("deal(" + seed + ", " + each + ", " + seconds + ")",
            () -> real.deal(seed, each, seconds), () -> model.deal(seed, each, seconds));
    }

    private void go(long seed, int most, int length) {
        real = new Rackword();
        model = new Model();
        random = new Random(seed);
        calls.clear();
        calls.add("new Rackword(), seed " + seed);
        if (random.nextInt(3) == 0) everything();
        for (int i = pick(0, 2); i >= 0; i--) tellRules(most);
        for (int i = pick(1, 4); i >= 0; i--) addPlayer();
        for (int i = 0; i < length; i++) {
            int way = random.nextInt(100);
            if (way == 0) tellRules(most);
            else if (way == 1) addPlayer();
            else if (way == 2 || model.turn == Model.NONE && way < 30) deal();
            else if (way < 55) turn();
            else if (way < 57) everything();
            else ask();
        }
        everything();
    }

    /** Lets programs alone play by the rules with all numbers, so that tables and racks grow large. */
    private void goPrograms(long seed) {
        real = new Rackword();
        model = new Model();
        random = new Random(seed);
        calls.clear();
        calls.add("new Rackword(), programs, seed " + seed);
        if (random.nextInt(3) > 0) {
            int least = pick(3, 4), jokers = pick(0, 3), meld = pick(0, 40), penalty = pick(1, 9);
            same("rules(13, " + least + ", " + jokers + ", " + meld + ", " + penalty + ")",
                () -> real.rules(13, least, jokers, meld, penalty), () -> model.rules(13, least, jokers, meld, penalty));
        }
        for (int i = pick(2, 4); i > 0; i--) {
            int program = random.nextInt(2) == 0 ? 1 : pick(1, 3);
            same("player(0, " + program + ")", () -> real.player(0, program), () -> model.player(0, program));
        }
        for (int round = 0; round < 2; round++) {
            deal();
            for (int i = 0; i < 150 && model.turn != Model.NONE; i++) {
                auto();
                if (i % 3 == 0) {
                    for (int what = 0; what <= 2; what++) {
                        int which = what;
                        same("cuts(" + what + ")", () -> real.cuts(which), () -> model.cuts(which));
                    }
                    for (int j = 0; j < 10; j++) ask();
                }
            }
            everything();
        }
    }

    /** Compares the plans of all players again and again, of those who have not melded above all. */
    private void goPlans(long seed) {
        real = new Rackword();
        model = new Model();
        random = new Random(seed);
        calls.clear();
        calls.add("new Rackword(), plans, seed " + seed);
        int highest = pick(5, 13), least = pick(3, 4), meld = pick(20, 60);
        same("rules(" + highest + ", " + least + ", 2, " + meld + ", 9)",
            () -> real.rules(highest, least, 2, meld, 9), () -> model.rules(highest, least, 2, meld, 9));
        for (int i = 0; i < 3; i++) same("player(0, 1)", () -> real.player(0, 1), () -> model.player(0, 1));
        deal();
        for (int i = 0; i < 12 && model.turn != Model.NONE; i++) {
            for (int player = 0; player < 3; player++) comparePlan(player);
            if (random.nextInt(3) == 0) layAny();
            if (random.nextInt(3) == 0) same("draw()", () -> real.draw(), () -> model.draw());
            else auto();
        }
        everythingOfCuts();
    }

    private static void go(int kind, long seed) {
        try {
            if (kind == 0) new ModelTest().goPlans(seed);
            else if (kind == 1 && seed % 3 == 0) new ModelTest().goPrograms(seed);
            else if (kind == 2) new ModelTest().go(seed, seed % 5 == 0 ? 13 : seed % 2 == 0 ? 5 : 7, 400);
        } catch (Model.TooLarge e) {
            cutShort++;
        } catch (AssertionError e) {
            System.out.println("in the run of seed " + seed);
        }
    }

    public static void main(String[] args) {
        int runs = args.length > 1 ? Integer.parseInt(args[1]) : 30;
        long from = args.length > 2 ? Long.parseLong(args[2]) : 1;
        for (long seed = from; seed < from + runs && wrong < 3; seed++) {
            for (int kind = 0; kind < 3; kind++) go(kind, seed);
        }
        System.out.println(compared + " answers compared, " + plans + " plans, " + cutShort + " runs cut short, " + wrong + " wrong");
        if (wrong > 0) System.exit(1);
    }
}
