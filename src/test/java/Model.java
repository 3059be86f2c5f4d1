import java.util.ArrayList;
import java.util.Arrays;
import java.util.Collections;
import java.util.HashMap;
import java.util.HashSet;
import java.util.List;
import java.util.Map;
import java.util.Set;

/**
 * The document once more, written as slowly and as plainly as can be, for the tests to compare with.
 * Cuts are searched set by set; plans by all choices of tiles, and where these are too many, set by set.
 */
final class Model {
    static final int NONE = -1, JOKER = 52;

    /** Thrown where a table is too large for the searches here; the run ends there, without an answer. */
    static final class TooLarge extends Error {
        private static final long serialVersionUID = 1;
    }

    static final int MEMO_MOST = 60000;
    static final int WHOLE_MOST = 1500000;
    static final int CHOOSE_MOST = 400000;

    static final class Seat {
        int team, program, points, clock, fresh, won;
        boolean melded, hasPassed;
        Set<Integer> passed = new HashSet<>();
        int[] claims = new int[52];
        List<Integer> rack = new ArrayList<>();
    }

    int highest = 13, least = 3, jokersInAll = 2, meld = 30, penalty = 3;
    List<Seat> seats = new ArrayList<>();
    List<Integer> ladder = new ArrayList<>();
    List<Integer> pool = new ArrayList<>();
    int[] tiles = new int[52], jokers = new int[52];
    int free, turn = NONE, idle, ended, winner = NONE, x;
    List<int[]> done = new ArrayList<>();
    List<int[]> record = new ArrayList<>();
    StringBuilder slate = new StringBuilder();
    Map<String, long[]> cutMemo = new HashMap<>();
    Map<String, Boolean> wholeMemo = new HashMap<>();
    int wholeLimit;
    List<int[]> sets = setsOf();
    List<List<int[]>> setsWith = setsByKind();

    // ---- sets and cuts

    List<int[]> setsOf() {
        List<int[]> all = new ArrayList<>();
        for (int colour = 0; colour < 4; colour++) {
            for (int from = 1; from <= highest; from++) {
                for (int to = from + least - 1; to <= highest; to++) {
                    all.add(run(colour, from, to));
                }
            }
        }
        for (int number = 1; number <= highest; number++) {
            addGroups(all, number);
        }
        return all;
    }

    /** For each kind the sets that have it. */
    List<List<int[]>> setsByKind() {
        List<List<int[]>> all = new ArrayList<>();
        for (int kind = 0; kind < 52; kind++) {
            List<int[]> some = new ArrayList<>();
            for (int[] set : sets) {
                if (contains(set, kind)) some.add(set);
            }
            all.add(some);
        }
        return all;
    }

    static int[] run(int colour, int from, int to) {
        int[] set = new int[to - from + 1];
        for (int i = 0; i < set.length; i++) set[i] = 13 * colour + from - 1 + i;
        return set;
    }

    static void addGroups(List<int[]> all, int number) {
        for (int without = 0; without <= 4; without++) {
            int[] set = new int[without == 4 ? 4 : 3];
            int size = 0;
            for (int colour = 0; colour < 4; colour++) {
                if (colour != without) set[size++] = 13 * colour + number - 1;
            }
            all.add(set);
        }
    }

    static int lowestLeft(int[] left) {
        // by numbers, then by colours
        for (int number = 0; number < 13; number++) {
            for (int colour = 0; colour < 4; colour++) {
                if (left[13 * colour + number] > 0) return 13 * colour + number;
            }
        }
        return NONE;
    }

    static boolean has(int[] left, int[] set) {
        for (int kind : set) if (left[kind] == 0) return false;
        return true;
    }

    static boolean contains(int[] set, int kind) {
        for (int other : set) if (other == kind) return true;
        return false;
    }

    static int[] without(int[] left, int[] set) {
        int[] now = left.clone();
        for (int kind : set) now[kind]--;
        return now;
    }

    static String key(int[] left) {
        StringBuilder key = new StringBuilder();
        for (int many : left) key.append((char) ('0' + many));
        return key.toString();
    }

    boolean whole(int[] left) {
        startSearch(WHOLE_MOST);
        return isCut(left);
    }

    /** One question may keep so many answers more before its search is given up. */
    void startSearch(int most) {
        if (wholeMemo.size() > WHOLE_MOST) wholeMemo.clear();
        wholeLimit = wholeMemo.size() + most;
    }

    boolean isCut(int[] left) {
        int kind = lowestLeft(left);
        if (kind == NONE) return true;
        String key = key(left);
        Boolean known = wholeMemo.get(key);
        if (known != null) return known;
        boolean answer = false;
        for (int[] set : setsWith.get(kind)) {
            if (!answer && has(left, set)) answer = isCut(without(left, set));
        }
        // to forget all and go on would search the same again without end
        if (wholeMemo.size() > wholeLimit) throw new TooLarge();
        wholeMemo.put(key, answer);
        return answer;
    }

    /** How many cuts, modulo 1000000007; fewest sets; most sets. */
    long[] cutsOf(int[] left, int before, int from) {
        int kind = lowestLeft(left);
        if (kind == NONE) return new long[] {1, 0, 0};
        int start = kind == before ? from : 0;
        String key = key(left) + start;
        if (before == NONE) cutMemo.clear();
        long[] known = cutMemo.get(key);
        if (known != null) return known;
        long[] answer = {0, NONE, NONE};
        List<int[]> some = setsWith.get(kind);
        for (int i = start; i < some.size(); i++) {
            int[] set = some.get(i);
            if (!has(left, set)) continue;
            long[] rest = cutsOf(without(left, set), kind, i);
            if (rest[1] == NONE) continue;
            answer[0] = (answer[0] + rest[0]) % 1000000007L;
            if (answer[1] == NONE || rest[1] + 1 < answer[1]) answer[1] = rest[1] + 1;
            if (rest[2] + 1 > answer[2]) answer[2] = rest[2] + 1;
        }
        if (cutMemo.size() > MEMO_MOST) throw new TooLarge();
        cutMemo.put(key, answer);
        return answer;
    }

    int[] table() {
        int[] all = new int[52];
        for (int kind = 0; kind < 52; kind++) all[kind] = tiles[kind] + jokers[kind];
        return all;
    }

    void statesOf(int[] left, List<int[]> choices, int number, String runs, Set<String> seen, Set<String> found) {
        if (!seen.add(key(left) + runs)) return;
        int kind = lowestLeft(left);
        if (kind == NONE) {
            found.add(runs);
            return;
        }
        for (int[] set : choices) {
            if (!contains(set, kind) || !has(left, set)) continue;
            boolean isRun = set.length == 1 || set[0] / 13 == set[1] / 13;
            String next = runs;
            if (isRun && set[set.length - 1] % 13 + 1 == number) {
                next = withRun(runs, set[0] / 13, Math.min(least, set.length));
            }
            statesOf(without(left, set), choices, number, next, seen, found);
        }
    }

    static String withRun(String runs, int colour, int length) {
        List<String> all = new ArrayList<>(Arrays.asList(runs.split(" ")));
        all.add(colour + ":" + length);
        all.remove("");
        Collections.sort(all);
        return String.join(" ", all);
    }

    // ---- plans

    int[] planMany;
    int[] bestMany;
    int[] bestRank;

    int worthOf(int kind) {
        return kind == JOKER ? 30 : kind % 13 + 1;
    }

    int inRack(Seat seat, int kind) {
        return Collections.frequency(seat.rack, kind);
    }

    /** How many tiles of each kind; null if there is no plan. */
    int[] planOf(Seat seat) {
        int[] table = table();
        int[] most = new int[52];
        long choices = 1;
        for (int kind = 0; kind < 52; kind++) {
            most[kind] = Math.min(inRack(seat, kind), 2 - table[kind]);
            choices *= most[kind] + 1;
        }
        int[] bySets = planBySets(seat, seat.melded ? table : new int[52], most);
        if (choices > 3000) return bySets;
        bestMany = null;
        bestRank = null;
        planMany = new int[52];
        startSearch(CHOOSE_MOST);
        try {
            choose(seat, most, table, 0);
        } catch (TooLarge e) {
            return bySets;
        }
        if (!Arrays.equals(bestMany, bySets)) throw new IllegalStateException("two searches, two plans");
        return bestMany;
    }

    Map<String, int[]> planMemo = new HashMap<>();
    boolean planMelded;

    int[] planBySets(Seat seat, int[] must, int[] may) {
        planMemo.clear();
        planMelded = seat.melded;
        int[] rank = bestFrom(must, may);
        return rank == null ? null : Arrays.copyOfRange(rank, 2, 54);
    }

    /** The best rank of all ways to cut what must be cut and some of what may be; null if there is none. */
    int[] bestFrom(int[] must, int[] may) {
        int[] all = new int[52];
        for (int i = 0; i < 52; i++) all[i] = must[i] + may[i];
        int kind = lowestLeft(all);
        if (kind == NONE) return new int[54];
        String key = key(must) + key(may);
        if (planMemo.containsKey(key)) return planMemo.get(key);
        int[] best = null;
        if (must[kind] == 0) {
            int[] less = may.clone();
            less[kind] = 0;
            best = bestFrom(must, less);
        }
        for (int[] set : setsWith.get(kind)) {
            if (has(all, set)) best = better(best, bestWith(set, must, may));
        }
        if (planMemo.size() > MEMO_MOST) throw new TooLarge();
        planMemo.put(key, best);
        return best;
    }

    int[] bestWith(int[] set, int[] must, int[] may) {
        int[] mustLeft = must.clone(), mayLeft = may.clone(), rank = new int[54];
        for (int kind : set) {
            if (mustLeft[kind] > 0) {
                mustLeft[kind]--;
            } else {
                mayLeft[kind]--;
                rank[planMelded ? 0 : 1]++;
                rank[planMelded ? 1 : 0] += worthOf(kind);
                rank[2 + kind]++;
            }
        }
        int[] rest = bestFrom(mustLeft, mayLeft);
        if (rest == null) return null;
        for (int i = 0; i < 54; i++) rank[i] += rest[i];
        return rank;
    }

    static int[] better(int[] one, int[] other) {
        if (one == null || other == null) return one == null ? other : one;
        return Arrays.compare(one, other) >= 0 ? one : other;
    }

    void choose(Seat seat, int[] most, int[] table, int kind) {
        if (kind < 52) {
            for (int many = 0; many <= most[kind]; many++) {
                planMany[kind] = many;
                choose(seat, most, table, kind + 1);
            }
            planMany[kind] = 0;
            return;
        }
        int size = 0, worth = 0;
        int[] all = new int[52];
        for (int i = 0; i < 52; i++) {
            size += planMany[i];
            worth += planMany[i] * worthOf(i);
            all[i] = planMany[i] + (seat.melded ? table[i] : 0);
        }
        int[] rank = new int[54];
        rank[0] = seat.melded ? size : worth;
        rank[1] = seat.melded ? worth : size;
        System.arraycopy(planMany, 0, rank, 2, 52);
        if (bestRank != null && Arrays.compare(rank, bestRank) <= 0) return;
        if (isCut(all)) {
            bestRank = rank;
            bestMany = planMany.clone();
        }
    }

    List<Integer> planTiles(int player) {
        Seat seat = seats.get(player);
        int[] many = planOf(seat);
        if (many == null) return null;
        List<Integer> plan = new ArrayList<>();
        for (int kind = 0; kind < 52; kind++) {
            for (int i = 0; i < many[kind]; i++) plan.add(kind);
        }
        return plan;
    }

    // ---- what arguments must be

    static void argument(boolean good) {
        if (!good) throw new IllegalArgumentException();
    }

    static void state(boolean good) {
        if (!good) throw new IllegalStateException();
    }

    void seatMust(int player) {
        if (player < 0 || player >= seats.size()) throw new IndexOutOfBoundsException();
    }

    boolean isKind(int kind) {
        return kind >= 0 && kind < 52 && kind % 13 + 1 <= highest;
    }

    // ---- the face

    int rules(int highest, int least, int jokers, int meld, int penalty) {
        argument(highest >= 5 && highest <= 13 && (least == 3 || least == 4) && jokers >= 0 && jokers <= 3);
        argument(meld >= 0 && meld <= 99 && penalty >= 1 && penalty <= 9);
        state(turn == NONE);
        this.highest = highest;
        this.least = least;
        this.jokersInAll = jokers;
        this.meld = meld;
        this.penalty = penalty;
        for (Seat seat : seats) seat.rack.clear();
        tiles = new int[52];
        this.jokers = new int[52];
        pool.clear();
        record.clear();
        cutMemo.clear();
        wholeMemo.clear();
        sets = setsOf();
        setsWith = setsByKind();
        return 8 * highest + jokers;
    }

    int player(int team, int program) {
        argument((team == 0 || team == 1) && program >= 0 && program <= 3);
        state(seats.size() < 4 && turn == NONE);
        Seat seat = new Seat();
        seat.team = team;
        seat.program = program;
        seats.add(seat);
        ladder.add(seats.size() - 1);
        return seats.size() - 1;
    }

    int deal(int seed, int each, int seconds) {
        argument(seed >= 0 && seed <= 65535 && each >= 1 && each <= 14 && seconds >= 1 && seconds <= 9999);
        state(turn == NONE && seats.size() >= 2 && 8 * highest + jokersInAll >= seats.size() * each);
        pool.clear();
        for (int kind = 0; kind < 52; kind++) {
            if (isKind(kind)) {
                pool.add(kind);
                pool.add(kind);
            }
        }
        for (int i = 0; i < jokersInAll; i++) pool.add(JOKER);
        tiles = new int[52];
        jokers = new int[52];
        free = 0;
        done.clear();
        record.clear();
        idle = 0;
        x = seed;
        for (Seat seat : seats) {
            seat.rack.clear();
            seat.melded = false;
            seat.hasPassed = false;
            seat.fresh = 0;
            seat.passed.clear();
            seat.claims = new int[52];
            seat.clock = seconds;
        }
        for (Seat seat : seats) {
            for (int i = 0; i < each; i++) drawOne(seat);
        }
        turn = 0;
        return pool.size();
    }

    int drawOne(Seat seat) {
        if (pool.isEmpty() || seat.rack.size() == 24) return 0;
        x = (int) ((25173L * x + 13849) % 65536);
        seat.rack.add(pool.remove(x % pool.size()));
        return 1;
    }

    int lies(int kind) {
        return tiles[kind] + jokers[kind];
    }

    void enter(int sort, int kind, int drawn) {
        record.add(0, new int[] {sort, turn, kind, drawn});
    }

    int lay(int kind) {
        argument(isKind(kind));
        state(turn != NONE);
        Seat seat = seats.get(turn);
        state(seat.rack.contains(kind) && lies(kind) < 2);
        seat.rack.remove(Integer.valueOf(kind));
        tiles[kind]++;
        done.add(new int[] {1, kind, 0});
        enter(1, kind, 0);
        return lies(kind);
    }

    int joker(int kind) {
        argument(isKind(kind));
        state(turn != NONE);
        Seat seat = seats.get(turn);
        state((free > 0 || seat.rack.contains(JOKER)) && lies(kind) < 2);
        int wasFree = free > 0 ? 1 : 0;
        if (free > 0) free--;
        else seat.rack.remove(Integer.valueOf(JOKER));
        jokers[kind]++;
        done.add(new int[] {2, kind, wasFree});
        enter(2, kind, 0);
        return Arrays.stream(jokers).sum();
    }

    int swap(int kind) {
        argument(isKind(kind));
        state(turn != NONE);
        Seat seat = seats.get(turn);
        state(seat.melded && seat.rack.contains(kind) && jokers[kind] > 0);
        seat.rack.remove(Integer.valueOf(kind));
        tiles[kind]++;
        jokers[kind]--;
        free++;
        done.add(new int[] {3, kind, 0});
        enter(3, kind, 0);
        return free;
    }

    int undo() {
        Seat seat = seats.get(turn);
        int[] last = done.remove(done.size() - 1);
        int kind = last[1];
        if (last[0] == 1) {
            tiles[kind]--;
            seat.rack.add(kind);
        } else if (last[0] == 2) {
            jokers[kind]--;
            if (last[2] == 1) free++;
            else seat.rack.add(JOKER);
        } else {
            tiles[kind]--;
            jokers[kind]++;
            free--;
            seat.rack.add(kind);
        }
        return kind;
    }

    int back() {
        state(turn != NONE && !done.isEmpty());
        int kind = undo();
        enter(4, kind, 0);
        return done.size();
    }

    int end() {
        state(turn != NONE && !done.isEmpty() && free == 0);
        Seat seat = seats.get(turn);
        state(whole(table()));
        if (!seat.melded) {
            int[] laid = new int[52];
            int worth = 0;
            for (int[] thing : done) {
                laid[thing[1]]++;
                if (thing[0] == 1) worth += worthOf(thing[1]);
            }
            state(whole(laid) && worth >= meld);
        }
        seat.melded = true;
        done.clear();
        enter(5, NONE, 0);
        idle = 0;
        if (seat.rack.isEmpty()) finish(turn);
        else turn = (turn + 1) % seats.size();
        return turn;
    }

    int rackWorth(Seat seat) {
        int worth = 0;
        for (int kind : seat.rack) worth += worthOf(kind);
        return worth;
    }

    void finish(int who) {
        for (int i = 0; i < seats.size(); i++) {
            if (i == who) continue;
            int worth = rackWorth(seats.get(i));
            seats.get(i).points -= worth;
            seats.get(who).points += worth;
        }
        seats.get(who).won++;
        int place = ladder.indexOf(who);
        if (place > 0) Collections.swap(ladder, place, place - 1);
        turn = NONE;
        winner = who;
        ended++;
    }

    boolean isAlone(int kind) {
        int[] all = table();
        if (all[kind] > 1) return false;
        all[kind]++;
        return whole(all);
    }

    int endByDrawing(int sort) {
        Seat seat = seats.get(turn);
        boolean something = !done.isEmpty();
        while (!done.isEmpty()) undo();
        if (!something && seat.melded) {
            seat.passed.clear();
            for (int kind = 0; kind < 52; kind++) {
                if (isKind(kind) && isAlone(kind)) seat.passed.add(kind);
            }
            seat.fresh = 0;
            seat.hasPassed = true;
        }
        int drawn = 0;
        for (int i = 0; i < (something ? penalty : 1); i++) drawn += drawOne(seat);
        if (seat.hasPassed) seat.fresh += drawn;
        enter(sort, NONE, drawn);
        idle = drawn == 0 ? idle + 1 : 0;
        if (idle == seats.size()) {
            int who = 0;
            for (int i = 0; i < seats.size(); i++) {
                if (rackWorth(seats.get(i)) < rackWorth(seats.get(who))) who = i;
            }
            finish(who);
        } else {
            turn = (turn + 1) % seats.size();
        }
        return drawn;
    }

    int draw() {
        state(turn != NONE);
        return endByDrawing(6);
    }

    int tick(int seconds) {
        argument(seconds >= 1 && seconds <= 999);
        state(turn != NONE);
        Seat seat = seats.get(turn);
        seat.clock = Math.max(0, seat.clock - seconds);
        if (seat.clock == 0) endByDrawing(7);
        return seat.clock;
    }

    int auto() {
        state(turn != NONE);
        Seat seat = seats.get(turn);
        state(seat.program != 0 && done.isEmpty());
        if (seat.program == 3 && seat.melded) {
            for (int kind = 0; kind < 52; kind++) {
                if (seat.rack.contains(kind) && isAlone(kind)) {
                    lay(kind);
                    end();
                    return 1;
                }
            }
            draw();
            return 0;
        }
        List<Integer> plan = planTiles(turn);
        boolean good = plan != null && !plan.isEmpty();
        if (good && !seat.melded) good = plan.stream().mapToInt(this::worthOf).sum() >= meld;
        if (good && seat.program == 2) good = plan.size() >= 3 || plan.size() == seat.rack.size();
        if (!good) {
            draw();
            return 0;
        }
        for (int kind : plan) lay(kind);
        end();
        return plan.size();
    }

    int type(char sign) {
        argument(sign >= 'a' && sign <= 'z' || sign >= '0' && sign <= '9');
        state(slate.length() < 40);
        slate.append(sign);
        return slate.length();
    }

    int wipe() {
        int were = slate.length();
        slate.setLength(0);
        return were;
    }

    int play() {
        String text = slate.toString();
        argument(text.matches("([ljs][abcd][1-9][0-9]?(?![0-9])|[tew])+"));
        List<String> moves = new ArrayList<>();
        java.util.regex.Matcher each = java.util.regex.Pattern.compile("[ljs][abcd][0-9]+|[tew]").matcher(text);
        while (each.find()) moves.add(each.group());
        for (String move : moves) {
            if (move.length() > 1) argument(Integer.parseInt(move.substring(2)) <= highest);
        }
        state(turn != NONE);
        int count = 0;
        try {
            for (String move : moves) {
                doMove(move);
                count++;
            }
        } catch (IllegalStateException e) {
            // the rest is not done
        }
        slate.setLength(0);
        return count;
    }

    void doMove(String move) {
        int kind = move.length() > 1 ? 13 * (move.charAt(1) - 'a') + Integer.parseInt(move.substring(2)) - 1 : NONE;
        switch (move.charAt(0)) {
            case 'l': lay(kind); break;
            case 'j': joker(kind); break;
            case 's': swap(kind); break;
            case 't': back(); break;
            case 'e': end(); break;
            default: draw();
        }
    }

    boolean isWhole() {
        return whole(table());
    }

    int cuts(int what) {
        argument(what >= 0 && what <= 2);
        return (int) cutsOf(table(), NONE, 0)[what];
    }

    int cutsAnew() {
        state(sum(2) <= 14);
        return cuts(0);
    }

    int states(int number) {
        argument(number >= 1 && number <= highest);
        int[] left = table();
        for (int kind = 0; kind < 52; kind++) {
            if (kind % 13 + 1 > number) left[kind] = 0;
        }
        List<int[]> choices = new ArrayList<>();
        for (int colour = 0; colour < 4; colour++) {
            for (int from = 1; from <= number; from++) {
                for (int to = from; to <= number; to++) {
                    if (to == number || to - from + 1 >= least) choices.add(run(colour, from, to));
                }
            }
        }
        for (int i = 1; i <= number; i++) addGroups(choices, i);
        Set<String> found = new HashSet<>();
        statesOf(left, choices, number, "", new HashSet<>(), found);
        return found.size();
    }

    int best(int player, int what) {
        seatMust(player);
        argument(what == 0 || what == 1);
        List<Integer> plan = planTiles(player);
        if (plan == null) return NONE;
        return what == 0 ? plan.size() : plan.stream().mapToInt(this::worthOf).sum();
    }

    int plan(int player, int place) {
        seatMust(player);
        argument(place >= 0);
        List<Integer> plan = planTiles(player);
        return plan == null || place >= plan.size() ? NONE : plan.get(place);
    }

    boolean alone(int kind) {
        argument(isKind(kind));
        return isAlone(kind);
    }

    int chance(int player, int other, int kind) {
        seatMust(player);
        seatMust(other);
        argument(player != other && (kind == JOKER || isKind(kind)));
        List<Integer> hidden = new ArrayList<>(pool);
        for (int i = 0; i < seats.size(); i++) {
            if (i != player) hidden.addAll(seats.get(i).rack);
        }
        int h = hidden.size();
        int m = Collections.frequency(hidden, kind);
        Seat seat = seats.get(other);
        int n = seat.rack.size();
        if (kind != JOKER && seat.passed.contains(kind)) n = Math.min(n, seat.fresh);
        long p = 1, q = 1;
        for (int i = 0; i < m; i++) {
            p *= h - i;
            q *= Math.max(0, h - n - i);
        }
        return (int) (1000 * (p - q) / p);
    }

    boolean passed(int player, int kind) {
        seatMust(player);
        argument(isKind(kind));
        return seats.get(player).passed.contains(kind);
    }

    int claim(int player, int kind, int many) {
        seatMust(player);
        argument(isKind(kind) && many >= 0 && many <= 2);
        int before = seats.get(player).claims[kind];
        seats.get(player).claims[kind] = many;
        return before;
    }

    long copies() {
        long sum = 0;
        for (int kind = 0; kind < 52; kind++) {
            int all = tiles[kind];
            for (Seat seat : seats) all += seat.claims[kind];
            if (all > 2) sum += Math.pow(2, kind);
        }
        return sum;
    }

    int rackIs(int player, int kind) {
        seatMust(player);
        argument(kind == JOKER || isKind(kind));
        return inRack(seats.get(player), kind);
    }

    int tableIs(int kind, boolean isJokers) {
        argument(isKind(kind));
        return isJokers ? jokers[kind] : tiles[kind];
    }

    int poolIs(int kind) {
        argument(kind == JOKER || isKind(kind));
        return Collections.frequency(pool, kind);
    }

    int playerIs(int player, int what) {
        seatMust(player);
        argument(what >= 0 && what <= 9);
        Seat seat = seats.get(player);
        return new int[] {seat.team, seat.program, seat.points, seat.clock, seat.melded ? 1 : 0, seat.rack.size(),
            rackWorth(seat), ladder.indexOf(player), seat.fresh, seat.won}[what];
    }

    int team(int team) {
        argument(team == 0 || team == 1);
        return seats.stream().filter(seat -> seat.team == team).mapToInt(seat -> seat.points).sum();
    }

    int entry(int place, int what) {
        if (place < 0 || place >= record.size()) throw new IndexOutOfBoundsException();
        argument(what >= 0 && what <= 3);
        return record.get(place)[what];
    }

    boolean isReplayed() {
        return true;
    }

    int sum(int what) {
        argument(what >= 0 && what <= 11);
        return new int[] {turn, pool.size(), Arrays.stream(tiles).sum() + Arrays.stream(jokers).sum(),
            Arrays.stream(jokers).sum(), free, done.size(), idle, record.size(), ended, winner, slate.length(), x}[what];
    }
}
