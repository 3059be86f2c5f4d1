import java.util.Arrays;

/** A table of numbered tiles, with its racks, its pool, its players and its record. */
public final class Rackword {
    public static final int NONE = -1;
    public static final int JOKER = 52;
    public static final int HUMAN = 0, GREEDY = 1, SAVING = 2, BLOCKING = 3;

    private static final int COLOURS = 4;
    private static final int ROW = 13;
    private static final int KINDS = 52;
    private static final int STACK = KINDS + 1;
    private static final int SEATS = 4;
    private static final int RACK_MOST = 24;
    private static final int JOKER_WORTH = 30;
    private static final int MODULUS = 1000000007;
    private static final int MOST_ANEW = 14;

    // The sorts of entries; the moves of a notation go by the same numbers up to DREW.
    private static final int LAID = 1;
    private static final int JOKER_LAID = 2;
    private static final int SWAPPED = 3;
    private static final int TAKEN_BACK = 4;
    private static final int ENDED = 5;
    private static final int DREW = 6;
    private static final int RAN_OUT = 7;

    // All that groups of one number can take of the four colours, four bits for each:
    // none; each single one; each pair of them. No two rows are alike, so that a row tells its groups.
    private static final int[] GROUPS = {
        0x0000,
        0x0111, 0x1011, 0x1101, 0x1110, 0x1111,
        0x0222, 0x1122, 0x1212, 0x1221, 0x1222,
        0x2022, 0x2112, 0x2121, 0x2122,
        0x2202, 0x2211, 0x2212,
        0x2220, 0x2221,
        0x2222
    };
    private static final int FIRST_PAIR = 6;

    private final Rules told = new Rules();
    private final Board board = new Board();
    private final Board shadow = new Board();
    private final Seats seats = new Seats();
    private final Slate slate = new Slate();
    private final Entries entries = new Entries();
    private final Sweep sweep = new Sweep();
    private final Plan thePlan = new Plan();
    private int playing = NONE;
    private int idleTurns;
    private int roundsEnded;
    private int lastWinner = NONE;
    private int cutsAsOf = NONE;
    private int cutsCount;
    private int cutsFewest;
    private int cutsMost;
    private int extrasAsOf = NONE;
    private long extras;

    public Rackword() {
    }

    // ---- rules, players, rounds

    public int rules(int highest, int least, int jokers, int meld, int penalty)
            throws IllegalArgumentException, IllegalStateException {
        boolean inRange = within(highest, 5, ROW) && within(least, 3, 4) && within(jokers, 0, 3)
                && within(meld, 0, 99) && within(penalty, 1, 9);
        if (!inRange) {
            throw new IllegalArgumentException();
        }
        if (isOn()) {
            throw new IllegalStateException();
        }
        told.highest = highest;
        told.least = least;
        told.jokers = jokers;
        told.meld = meld;
        told.penalty = penalty;
        board.clear();
        entries.clear();
        return told.pieces();
    }

    public int player(int team, int program) throws IllegalArgumentException, IllegalStateException {
        if (!within(team, 0, 1) || !within(program, HUMAN, BLOCKING)) {
            throw new IllegalArgumentException();
        }
        if (isOn() || seats.count >= SEATS) {
            throw new IllegalStateException();
        }
        return seats.add(team, program);
    }

    public int deal(int seed, int each, int seconds) throws IllegalArgumentException, IllegalStateException {
        if (!within(seed, 0, 65535) || !within(each, 1, 14) || !within(seconds, 1, 9999)) {
            throw new IllegalArgumentException();
        }
        if (isOn() || seats.count < 2 || told.pieces() < seats.count * each) {
            throw new IllegalStateException();
        }
        seats.startRound(seconds);
        entries.startRound(seed, each, seats.count);
        board.dealOut(told, seed, each, seats.count);
        idleTurns = 0;
        playing = 0;
        return board.poolSize;
    }

    // ---- turns

    public int lay(int kind) throws IllegalArgumentException, IllegalStateException {
        needKind(kind);
        if (!mayLay(kind)) {
            throw new IllegalStateException();
        }
        layTile(kind);
        return board.lies(kind);
    }

    public int joker(int kind) throws IllegalArgumentException, IllegalStateException {
        needKind(kind);
        if (!mayLayJoker(kind)) {
            throw new IllegalStateException();
        }
        layJoker(kind);
        return board.jokersLaid;
    }

    public int swap(int kind) throws IllegalArgumentException, IllegalStateException {
        needKind(kind);
        if (!maySwap(kind)) {
            throw new IllegalStateException();
        }
        swapJoker(kind);
        return board.free;
    }

    public int back() throws IllegalStateException {
        if (!mayTakeBack()) {
            throw new IllegalStateException();
        }
        takeBack();
        return board.doneCount;
    }

    public int end() throws IllegalStateException {
        if (!mayEnd()) {
            throw new IllegalStateException();
        }
        endByLaying();
        return playing;
    }

    public int draw() throws IllegalStateException {
        needRound();
        return endByDrawing(DREW);
    }

    public int tick(int seconds) throws IllegalArgumentException, IllegalStateException {
        if (!within(seconds, 1, 999)) {
            throw new IllegalArgumentException();
        }
        needRound();
        int left = Math.max(0, at(seats.clock, playing) - seconds);
        set(seats.clock, playing, left);
        if (left == 0) {
            endByDrawing(RAN_OUT);
        }
        return left;
    }

    public int auto() throws IllegalStateException {
        needRound();
        int program = at(seats.program, playing);
        if (program == HUMAN || board.doneCount > 0) {
            throw new IllegalStateException();
        }
        if (program == BLOCKING && hasMelded(playing)) {
            return autoBlocking();
        }
        return autoByPlan(program);
    }

    // ---- notation

    public int type(char sign) throws IllegalArgumentException, IllegalStateException {
        if (!within(sign, 'a', 'z') && !within(sign, '0', '9')) {
            throw new IllegalArgumentException();
        }
        if (!slate.write(sign)) {
            throw new IllegalStateException();
        }
        return slate.size;
    }

    public int wipe() {
        int were = slate.size;
        slate.size = 0;
        return were;
    }

    public int play() throws IllegalArgumentException, IllegalStateException {
        if (!slate.read(told)) {
            throw new IllegalArgumentException();
        }
        needRound();
        int done = 0;
        while (done < slate.moves && move(at(slate.sorts, done), at(slate.kinds, done))) {
            done++;
        }
        slate.size = 0;
        return done;
    }

    // ---- cuts

    public boolean isWhole() {
        takeTable();
        return sweep.go(told, Sweep.WHOLE, told.highest + 1) > 0;
    }

    public int cuts(int what) throws IllegalArgumentException {
        if (!within(what, 0, 2)) {
            throw new IllegalArgumentException();
        }
        findCuts();
        return what == 0 ? cutsCount : what == 1 ? cutsFewest : cutsMost;
    }

    public int cutsAnew() throws IllegalStateException {
        if (board.tableSize > MOST_ANEW) {
            throw new IllegalStateException();
        }
        takeTable();
        return Anew.count(sweep.low, 0, 0, told.least, 0) % MODULUS;
    }

    public int states(int number) throws IllegalArgumentException {
        if (!within(number, 1, told.highest)) {
            throw new IllegalArgumentException();
        }
        takeTable();
        return sweep.go(told, Sweep.STATES, number);
    }

    // ---- plans

    public int best(int player, int what) throws IndexOutOfBoundsException, IllegalArgumentException {
        needPlayer(player);
        if (!within(what, 0, 1)) {
            throw new IllegalArgumentException();
        }
        findPlan(player);
        if (!thePlan.isThere) {
            return NONE;
        }
        return what == 0 ? thePlan.size : thePlan.worth;
    }

    public int plan(int player, int place) throws IndexOutOfBoundsException, IllegalArgumentException {
        needPlayer(player);
        if (place < 0) {
            throw new IllegalArgumentException();
        }
        findPlan(player);
        return thePlan.kindAt(place);
    }

    public boolean alone(int kind) throws IllegalArgumentException {
        needKind(kind);
        return isIn(findAlone(), kind);
    }

    // ---- what others hold

    public int chance(int player, int other, int kind) throws IndexOutOfBoundsException, IllegalArgumentException {
        needPlayer(player);
        needPlayer(other);
        if (player == other) {
            throw new IllegalArgumentException();
        }
        needPiece(kind);
        int held = board.sizeOf(other);
        if (isIn(seats.passedBy(other), kind)) {
            held = Math.min(held, at(seats.fresh, other));
        }
        return thousandths(board.allHidden(player), board.hidden(player, kind), held);
    }

    public boolean passed(int player, int kind) throws IndexOutOfBoundsException, IllegalArgumentException {
        needPlayer(player);
        needKind(kind);
        return isIn(seats.passedBy(player), kind);
    }

    public int claim(int player, int kind, int many) throws IndexOutOfBoundsException, IllegalArgumentException {
        needPlayer(player);
        needKind(kind);
        if (!within(many, 0, 2)) {
            throw new IllegalArgumentException();
        }
        int before = at(seats.claims, player * KINDS + kind);
        set(seats.claims, player * KINDS + kind, many);
        return before;
    }

    public long copies() {
        long kinds = 0;
        for (int kind = 0; kind < KINDS; kind++) {
            if (seats.claimed(kind) + at(board.tiles, kind) > 2) {
                kinds |= 1L << kind;
            }
        }
        return kinds;
    }

    // ---- what is told

    public int rackIs(int player, int kind) throws IndexOutOfBoundsException, IllegalArgumentException {
        needPlayer(player);
        needPiece(kind);
        return board.rackOf(player, kind);
    }

    public int tableIs(int kind, boolean jokers) throws IllegalArgumentException {
        needKind(kind);
        return jokers ? at(board.jokers, kind) : at(board.tiles, kind);
    }

    public int poolIs(int kind) throws IllegalArgumentException {
        needPiece(kind);
        return at(board.pool, kind);
    }

    public int playerIs(int player, int what) throws IndexOutOfBoundsException, IllegalArgumentException {
        needPlayer(player);
        switch (what) {
            case 0: return at(seats.team, player);
            case 1: return at(seats.program, player);
            case 2: return at(seats.points, player);
            case 3: return at(seats.clock, player);
            case 4: return hasMelded(player) ? 1 : 0;
            case 5: return board.sizeOf(player);
            case 6: return board.worthOf(player);
            case 7: return seats.placeOf(player);
            case 8: return at(seats.fresh, player);
            case 9: return at(seats.won, player);
            default: throw new IllegalArgumentException();
        }
    }

    public int team(int team) throws IllegalArgumentException {
        if (!within(team, 0, 1)) {
            throw new IllegalArgumentException();
        }
        return seats.pointsOf(team);
    }

    public int entry(int place, int what) throws IndexOutOfBoundsException, IllegalArgumentException {
        if (!within(place, 0, entries.size - 1)) {
            throw new IndexOutOfBoundsException();
        }
        int index = entries.size - 1 - place;
        switch (what) {
            case 0: return entries.sort(index);
            case 1: return entries.who(index);
            case 2: return entries.kind(index);
            case 3: return entries.drawn(index);
            default: throw new IllegalArgumentException();
        }
    }

    public boolean isReplayed() {
        shadow.clear();
        if (entries.isDealt) {
            shadow.dealOut(told, entries.seed, entries.each, entries.players);
            for (int i = 0; i < entries.size; i++) {
                replay(entries.sort(i), entries.who(i), entries.kind(i));
            }
        }
        return board.isLike(shadow);
    }

    public int sum(int what) throws IllegalArgumentException {
        switch (what) {
            case 0: return playing;
            case 1: return board.poolSize;
            case 2: return board.tableSize;
            case 3: return board.jokersLaid;
            case 4: return board.free;
            case 5: return board.doneCount;
            case 6: return idleTurns;
            case 7: return entries.size;
            case 8: return roundsEnded;
            case 9: return lastWinner;
            case 10: return slate.size;
            case 11: return board.seed;
            default: throw new IllegalArgumentException();
        }
    }

    // ---- what arguments must be

    private void needRound() {
        if (!isOn()) {
            throw new IllegalStateException();
        }
    }

    private void needPlayer(int player) {
        if (!within(player, 0, seats.count - 1)) {
            throw new IndexOutOfBoundsException();
        }
    }

    private void needKind(int kind) {
        if (!told.isKind(kind)) {
            throw new IllegalArgumentException();
        }
    }

    private void needPiece(int kind) {
        if (kind != JOKER && !told.isKind(kind)) {
            throw new IllegalArgumentException();
        }
    }

    private boolean isOn() {
        return playing != NONE;
    }

    private boolean hasMelded(int player) {
        return at(seats.melded, player) == 1;
    }

    // ---- what can be done in a turn, and what is done

    private boolean mayLay(int kind) {
        return isOn() && board.rackOf(playing, kind) > 0 && board.lies(kind) < 2;
    }

    private boolean mayLayJoker(int kind) {
        return isOn() && (board.free > 0 || board.rackOf(playing, JOKER) > 0) && board.lies(kind) < 2;
    }

    private boolean maySwap(int kind) {
        return isOn() && hasMelded(playing) && board.rackOf(playing, kind) > 0 && at(board.jokers, kind) > 0;
    }

    private boolean mayTakeBack() {
        return isOn() && board.doneCount > 0;
    }

    private boolean mayEnd() {
        if (!isOn() || board.doneCount == 0 || board.free > 0) {
            return false;
        }
        if (!hasMelded(playing)) {
            takeLaid();
            if (board.laidWorth() < told.meld || sweep.go(told, Sweep.WHOLE, told.highest + 1) == 0) {
                return false;
            }
        }
        takeTable();
        return sweep.go(told, Sweep.WHOLE, told.highest + 1) > 0;
    }

    private void layTile(int kind) {
        board.layTile(playing, kind);
        entries.add(LAID, playing, kind, 0);
    }

    private void layJoker(int kind) {
        board.layJoker(playing, kind);
        entries.add(JOKER_LAID, playing, kind, 0);
    }

    private void swapJoker(int kind) {
        board.swapJoker(playing, kind);
        entries.add(SWAPPED, playing, kind, 0);
    }

    private void takeBack() {
        int kind = board.undo(playing);
        entries.add(TAKEN_BACK, playing, kind, 0);
    }

    /** Does a move of a notation; answers false, and does nothing, if its call would throw. */
    private boolean move(int sort, int kind) {
        switch (sort) {
            case LAID:
                if (!mayLay(kind)) {
                    return false;
                }
                layTile(kind);
                return true;
            case JOKER_LAID:
                if (!mayLayJoker(kind)) {
                    return false;
                }
                layJoker(kind);
                return true;
            case SWAPPED:
                if (!maySwap(kind)) {
                    return false;
                }
                swapJoker(kind);
                return true;
            case TAKEN_BACK:
                if (!mayTakeBack()) {
                    return false;
                }
                takeBack();
                return true;
            case ENDED:
                if (!mayEnd()) {
                    return false;
                }
                endByLaying();
                return true;
            default:
                if (!isOn()) {
                    return false;
                }
                endByDrawing(DREW);
                return true;
        }
    }

    // ---- how a turn and a round end

    private void endByLaying() {
        int player = playing;
        entries.add(ENDED, player, NONE, 0);
        set(seats.melded, player, 1);
        board.settle();
        idleTurns = 0;
        if (board.sizeOf(player) == 0) {
            endRound(player);
        } else {
            passOn();
        }
    }

    private int endByDrawing(int sort) {
        int player = playing;
        boolean wasDone = board.doneCount > 0;
        board.undoAll(player);
        if (!wasDone && hasMelded(player)) {
            seats.pass(player, findAlone());
        }
        int drawn = board.drawUpTo(player, wasDone ? told.penalty : 1);
        seats.freshen(player, drawn);
        entries.add(sort, player, NONE, drawn);
        idleTurns = drawn == 0 ? idleTurns + 1 : 0;
        if (idleTurns >= seats.count) {
            endRound(board.lightest(seats.count));
        } else {
            passOn();
        }
        return drawn;
    }

    private void passOn() {
        playing = playing + 1 < seats.count ? playing + 1 : 0;
    }

    private void endRound(int winner) {
        int lost = 0;
        for (int player = 0; player < seats.count; player++) {
            if (player != winner) {
                int worth = board.worthOf(player);
                set(seats.points, player, at(seats.points, player) - worth);
                lost += worth;
            }
        }
        set(seats.points, winner, at(seats.points, winner) + lost);
        set(seats.won, winner, at(seats.won, winner) + 1);
        seats.climb(winner);
        playing = NONE;
        lastWinner = winner;
        roundsEnded++;
    }

    private void replay(int sort, int player, int kind) {
        switch (sort) {
            case LAID:
                shadow.layTile(player, kind);
                break;
            case JOKER_LAID:
                shadow.layJoker(player, kind);
                break;
            case SWAPPED:
                shadow.swapJoker(player, kind);
                break;
            case TAKEN_BACK:
                shadow.undo(player);
                break;
            case ENDED:
                shadow.settle();
                break;
            default:
                int many = shadow.doneCount > 0 ? told.penalty : 1;
                shadow.undoAll(player);
                shadow.drawUpTo(player, many);
                break;
        }
    }

    // ---- programs

    private int autoBlocking() {
        long kinds = findAlone();
        for (int kind = 0; kind < KINDS; kind++) {
            if (isIn(kinds, kind) && mayLay(kind)) {
                layTile(kind);
                endByLaying();
                return 1;
            }
        }
        endByDrawing(DREW);
        return 0;
    }

    private int autoByPlan(int program) {
        findPlan(playing);
        if (!isPlanGood(program)) {
            endByDrawing(DREW);
            return 0;
        }
        for (int i = 0; i < thePlan.size; i++) {
            layTile(thePlan.kindAt(i));
        }
        int laid = thePlan.size;
        endByLaying();
        return laid;
    }

    private boolean isPlanGood(int program) {
        if (!thePlan.isThere || thePlan.size == 0) {
            return false;
        }
        if (!hasMelded(playing) && thePlan.worth < told.meld) {
            return false;
        }
        return program != SAVING || thePlan.size >= 3 || thePlan.size == board.sizeOf(playing);
    }

    // ---- what the sweep finds

    private void takeTable() {
        sweep.clear();
        for (int kind = 0; kind < KINDS; kind++) {
            sweep.add(kind, board.lies(kind));
        }
    }

    private void takeLaid() {
        sweep.clear();
        for (int i = 0; i < board.doneCount; i++) {
            sweep.add(board.doneKind(i), 1);
        }
    }

    private void findCuts() {
        if (cutsAsOf == board.changes) {
            return;
        }
        takeTable();
        boolean isCut = sweep.go(told, Sweep.COUNT, told.highest + 1) > 0;
        cutsCount = isCut ? (int) sweep.here.first[0] : 0;
        cutsFewest = isCut ? (int) (sweep.here.second[0] >>> 32) : NONE;
        cutsMost = isCut ? (int) sweep.here.second[0] : NONE;
        cutsAsOf = board.changes;
    }

    /** The kinds that are alone, a bit for each. */
    private long findAlone() {
        if (extrasAsOf != board.changes) {
            takeTable();
            extras = sweep.go(told, Sweep.EXTRA, told.highest + 1) > 0 ? sweep.here.first[0] : 0;
            extrasAsOf = board.changes;
        }
        return extras;
    }

    private void findPlan(int player) {
        if (thePlan.player == player && thePlan.asOf == board.changes) {
            return;
        }
        boolean melded = hasMelded(player);
        sweep.clear();
        for (int kind = 0; kind < KINDS; kind++) {
            int lying = board.lies(kind);
            sweep.add(kind, melded ? lying : 0);
            sweep.allow(kind, Math.min(board.rackOf(player, kind), 2 - lying));
        }
        sweep.byWorth = !melded;
        thePlan.isThere = sweep.go(told, Sweep.PLAN, told.highest + 1) > 0;
        thePlan.player = player;
        thePlan.asOf = board.changes;
        thePlan.unpack(sweep.here.first[0], sweep.here.second[0]);
    }

    // ---- small things

    private static boolean within(int value, int from, int to) {
        return value >= from && value <= to;
    }

    private static int at(int[] row, int place) {
        return place >= 0 && place < row.length ? row[place] : 0;
    }

    private static void set(int[] row, int place, int value) {
        if (place >= 0 && place < row.length) {
            row[place] = value;
        }
    }

    private static boolean isIn(long kinds, int kind) {
        return kind >= 0 && kind < KINDS && (kinds >>> kind & 1) == 1;
    }

    private static int thousandths(int hidden, int ofKind, int held) {
        long all = 1;
        long without = 1;
        for (int i = 0; i < ofKind; i++) {
            all *= Math.max(0, hidden - i);
            without *= Math.max(0, hidden - held - i);
        }
        return all <= 0 ? 0 : (int) (1000 * (all - without) / all);
    }

    /** The rules that are told. */
    private static final class Rules {
        private int highest = ROW;
        private int least = 3;
        private int jokers = 2;
        private int meld = 30;
        private int penalty = 3;

        private boolean isKind(int kind) {
            return kind >= 0 && kind < KINDS && kind % ROW < highest;
        }

        private int pieces() {
            return 2 * COLOURS * highest + jokers;
        }
    }

    /** The players, and the ladder that they stand on. */
    private static final class Seats {
        private int count;
        private final int[] team = new int[SEATS];
        private final int[] program = new int[SEATS];
        private final int[] points = new int[SEATS];
        private final int[] clock = new int[SEATS];
        private final int[] melded = new int[SEATS];
        private final int[] fresh = new int[SEATS];
        private final int[] hasPassed = new int[SEATS];
        private final int[] won = new int[SEATS];
        private final int[] ladder = new int[SEATS];
        private final long[] passedKinds = new long[SEATS];
        private final int[] claims = new int[SEATS * KINDS];

        private int add(int itsTeam, int itsProgram) {
            int player = count;
            set(team, player, itsTeam);
            set(program, player, itsProgram);
            set(ladder, player, player);
            count++;
            return player;
        }

        private void startRound(int seconds) {
            for (int player = 0; player < count; player++) {
                set(clock, player, seconds);
            }
            Arrays.fill(melded, 0);
            Arrays.fill(fresh, 0);
            Arrays.fill(hasPassed, 0);
            Arrays.fill(passedKinds, 0L);
            Arrays.fill(claims, 0);
        }

        private void pass(int player, long kinds) {
            if (player >= 0 && player < SEATS) {
                passedKinds[player] = kinds;
                fresh[player] = 0;
                hasPassed[player] = 1;
            }
        }

        private void freshen(int player, int drawn) {
            if (at(hasPassed, player) == 1) {
                set(fresh, player, at(fresh, player) + drawn);
            }
        }

        private long passedBy(int player) {
            return player >= 0 && player < SEATS ? passedKinds[player] : 0;
        }

        private int claimed(int kind) {
            int many = 0;
            for (int player = 0; player < count; player++) {
                many += at(claims, player * KINDS + kind);
            }
            return many;
        }

        private int placeOf(int player) {
            for (int place = 0; place < count; place++) {
                if (at(ladder, place) == player) {
                    return place;
                }
            }
            return NONE;
        }

        private void climb(int player) {
            int place = placeOf(player);
            if (place > 0) {
                set(ladder, place, at(ladder, place - 1));
                set(ladder, place - 1, player);
            }
        }

        private int pointsOf(int which) {
            int together = 0;
            for (int player = 0; player < count; player++) {
                if (at(team, player) == which) {
                    together += at(points, player);
                }
            }
            return together;
        }
    }

    /** Where all tiles and jokers are, and what was done with them in this turn. */
    private static final class Board {
        // A turn lays at most the 24 of a rack and, for each swap among them, one joker more.
        private static final int DONE_MOST = 64;
        private static final int TILE = 0;
        private static final int RACK_JOKER = 1;
        private static final int FREE_JOKER = 2;
        private static final int SWAP = 3;

        private final int[] pool = new int[STACK];
        private final int[] racks = new int[SEATS * STACK];
        private final int[] rackSizes = new int[SEATS];
        private final int[] tiles = new int[KINDS];
        private final int[] jokers = new int[KINDS];
        private final int[] done = new int[DONE_MOST];
        private int doneCount;
        private int poolSize;
        private int tableSize;
        private int jokersLaid;
        private int free;
        private int seed;
        private int changes;

        private void clear() {
            Arrays.fill(pool, 0);
            Arrays.fill(racks, 0);
            Arrays.fill(rackSizes, 0);
            Arrays.fill(tiles, 0);
            Arrays.fill(jokers, 0);
            doneCount = 0;
            poolSize = 0;
            tableSize = 0;
            jokersLaid = 0;
            free = 0;
            changes++;
        }

        private void dealOut(Rules rules, int from, int each, int players) {
            clear();
            for (int kind = 0; kind < KINDS; kind++) {
                pool[kind] = rules.isKind(kind) ? 2 : 0;
            }
            pool[JOKER] = rules.jokers;
            poolSize = rules.pieces();
            seed = from;
            for (int player = 0; player < players; player++) {
                drawUpTo(player, each);
            }
        }

        private int drawUpTo(int player, int many) {
            int drawn = 0;
            while (drawn < many && drawOne(player)) {
                drawn++;
            }
            return drawn;
        }

        private boolean drawOne(int player) {
            if (poolSize <= 0 || sizeOf(player) >= RACK_MOST) {
                return false;
            }
            seed = 25173 * seed + 13849 & 0xFFFF;
            int place = seed % poolSize;
            for (int kind = 0; kind < STACK; kind++) {
                if (place < pool[kind]) {
                    pool[kind]--;
                    poolSize--;
                    give(player, kind, 1);
                    return true;
                }
                place -= pool[kind];
            }
            return false;
        }

        private void give(int player, int kind, int by) {
            int place = player * STACK + kind;
            set(racks, place, at(racks, place) + by);
            set(rackSizes, player, at(rackSizes, player) + by);
            changes++;
        }

        private int rackOf(int player, int kind) {
            return at(racks, player * STACK + kind);
        }

        private int sizeOf(int player) {
            return at(rackSizes, player);
        }

        private int worthOf(int player) {
            int worth = JOKER_WORTH * rackOf(player, JOKER);
            for (int kind = 0; kind < KINDS; kind++) {
                worth += (kind % ROW + 1) * rackOf(player, kind);
            }
            return worth;
        }

        private int lightest(int players) {
            int player = 0;
            for (int other = 1; other < players; other++) {
                if (worthOf(other) < worthOf(player)) {
                    player = other;
                }
            }
            return player;
        }

        private int lies(int kind) {
            return at(tiles, kind) + at(jokers, kind);
        }

        private int hidden(int player, int kind) {
            int many = at(pool, kind);
            for (int other = 0; other < SEATS; other++) {
                many += other == player ? 0 : rackOf(other, kind);
            }
            return many;
        }

        private int allHidden(int player) {
            int many = poolSize;
            for (int other = 0; other < SEATS; other++) {
                many += other == player ? 0 : sizeOf(other);
            }
            return many;
        }

        private void layTile(int player, int kind) {
            give(player, kind, -1);
            change(tiles, kind, 1);
            tableSize++;
            note(TILE, kind);
        }

        private void layJoker(int player, int kind) {
            boolean isFree = free > 0;
            if (isFree) {
                free--;
            } else {
                give(player, JOKER, -1);
            }
            change(jokers, kind, 1);
            tableSize++;
            jokersLaid++;
            note(isFree ? FREE_JOKER : RACK_JOKER, kind);
        }

        private void swapJoker(int player, int kind) {
            give(player, kind, -1);
            change(tiles, kind, 1);
            change(jokers, kind, -1);
            jokersLaid--;
            free++;
            note(SWAP, kind);
        }

        private void change(int[] row, int kind, int by) {
            set(row, kind, at(row, kind) + by);
            changes++;
        }

        private void note(int how, int kind) {
            set(done, doneCount, how * 64 + kind);
            doneCount = Math.min(doneCount + 1, DONE_MOST);
        }

        private int doneKind(int index) {
            return at(done, index) & 63;
        }

        /** What the tiles, without jokers, that were laid in this turn are worth. */
        private int laidWorth() {
            int worth = 0;
            for (int i = 0; i < doneCount; i++) {
                worth += at(done, i) >> 6 == TILE ? doneKind(i) % ROW + 1 : 0;
            }
            return worth;
        }

        private int undo(int player) {
            if (doneCount <= 0) {
                return NONE;
            }
            doneCount--;
            int kind = doneKind(doneCount);
            switch (at(done, doneCount) >> 6) {
                case TILE:
                    change(tiles, kind, -1);
                    tableSize--;
                    give(player, kind, 1);
                    break;
                case SWAP:
                    change(tiles, kind, -1);
                    change(jokers, kind, 1);
                    jokersLaid++;
                    free--;
                    give(player, kind, 1);
                    break;
                case RACK_JOKER:
                    liftJoker(kind);
                    give(player, JOKER, 1);
                    break;
                default:
                    liftJoker(kind);
                    free++;
                    break;
            }
            return kind;
        }

        private void liftJoker(int kind) {
            change(jokers, kind, -1);
            tableSize--;
            jokersLaid--;
        }

        private void undoAll(int player) {
            for (int i = doneCount; i > 0; i--) {
                undo(player);
            }
        }

        /** What was done in the turn stays; that who played has melded now is a change, too. */
        private void settle() {
            doneCount = 0;
            changes++;
        }

        private boolean isLike(Board other) {
            return isSame(pool, other.pool) && isSame(racks, other.racks)
                    && isSame(tiles, other.tiles) && isSame(jokers, other.jokers);
        }

        private static boolean isSame(int[] row, int[] other) {
            for (int i = 0; i < row.length; i++) {
                if (row[i] != at(other, i)) {
                    return false;
                }
            }
            return row.length == other.length;
        }
    }

    /** The record of a round, and how that round was dealt. */
    private static final class Entries {
        // Within 512 calls at most 512 entries come one a call, and the programs lay 104 tiles.
        private static final int MOST = 1024;

        private final int[] rows = new int[MOST];
        private int size;
        private boolean isDealt;
        private int seed;
        private int each;
        private int players;

        private void clear() {
            size = 0;
            isDealt = false;
        }

        private void startRound(int itsSeed, int itsEach, int itsPlayers) {
            size = 0;
            isDealt = true;
            seed = itsSeed;
            each = itsEach;
            players = itsPlayers;
        }

        private void add(int sort, int player, int kind, int drawn) {
            if (size < MOST) {
                rows[size] = sort | player << 3 | kind + 1 << 5 | drawn << 11;
                size++;
            }
        }

        private int sort(int index) {
            return at(rows, index) & 7;
        }

        private int who(int index) {
            return at(rows, index) >> 3 & 3;
        }

        private int kind(int index) {
            return (at(rows, index) >> 5 & 63) - 1;
        }

        private int drawn(int index) {
            return at(rows, index) >> 11;
        }
    }

    /** The signs that were typed, and the moves that they are. */
    private static final class Slate {
        private static final int MOST = 40;

        private final int[] signs = new int[MOST];
        private int size;
        private final int[] sorts = new int[MOST];
        private final int[] kinds = new int[MOST];
        private int moves;

        private boolean write(char sign) {
            if (size >= MOST) {
                return false;
            }
            signs[size] = sign;
            size++;
            return true;
        }

        /** Answers whether the signs are a notation with kinds that there are; the moves are kept. */
        private boolean read(Rules rules) {
            moves = 0;
            int next = 0;
            while (next < size) {
                int sort = sortOf(at(signs, next));
                int length = sort > SWAPPED ? 1 : 2 + digits(next + 2);
                if (sort == NONE || next + length > size) {
                    return false;
                }
                int kind = sort > SWAPPED ? NONE : kindAt(next + 1, length - 2);
                if (sort <= SWAPPED && !rules.isKind(kind)) {
                    return false;
                }
                set(sorts, moves, sort);
                set(kinds, moves, kind);
                moves++;
                next += length;
            }
            return moves > 0;
        }

        private static int sortOf(int sign) {
            switch (sign) {
                case 'l': return LAID;
                case 'j': return JOKER_LAID;
                case 's': return SWAPPED;
                case 't': return TAKEN_BACK;
                case 'e': return ENDED;
                case 'w': return DREW;
                default: return NONE;
            }
        }

        private boolean isDigit(int place) {
            return place < size && within(at(signs, place), '0', '9');
        }

        private int digits(int place) {
            return isDigit(place) && isDigit(place + 1) ? 2 : 1;
        }

        /** The kind whose letter stands at a place, with one or two signs behind it; NONE if these are none. */
        private int kindAt(int place, int length) {
            int colour = at(signs, place) - 'a';
            if (!within(colour, 0, COLOURS - 1) || !isDigit(place + 1) || at(signs, place + 1) == '0') {
                return NONE;
            }
            int number = at(signs, place + 1) - '0';
            if (length == 2) {
                number = 10 * number + at(signs, place + 2) - '0';
            }
            return number <= ROW ? ROW * colour + number - 1 : NONE;
        }
    }

    /** The plan of a player, as of a change of the board. */
    private static final class Plan {
        private final int[] kinds = new int[RACK_MOST];
        private int player = NONE;
        private int asOf = NONE;
        private boolean isThere;
        private int size;
        private int worth;

        private void unpack(long first, long second) {
            size = 0;
            worth = 0;
            for (int kind = 0; isThere && kind < KINDS; kind++) {
                int many = Sweep.tilesOf(first, second, kind);
                for (int i = 0; i < many; i++) {
                    set(kinds, size, kind);
                    size++;
                    worth += kind % ROW + 1;
                }
            }
        }

        private int kindAt(int place) {
            return isThere && place < size ? at(kinds, place) : NONE;
        }
    }

    /** Cuts counted set by set, for tables of few tiles. */
    private static final class Anew {
        private static final int DEEPEST = MOST_ANEW / 3;
        // A choice is a set that begins with a given kind: a run by its length, behind them the groups.
        private static final int FIRST_GROUP = ROW + 1;
        private static final int CHOICES = ROW + 6;

        private Anew() {
        }

        /**
         * Each set takes the lowest kind that is left, and of two that begin with one kind the second is
         * no lower choice: so each cut is met just once.
         */
        private static int count(int[] left, int from, int firstChoice, int least, int depth) {
            int kind = from;
            while (kind < KINDS && at(left, kind) == 0) {
                kind++;
            }
            if (kind >= KINDS) {
                return 1;
            }
            if (depth >= DEEPEST) {
                return 0;
            }
            int many = 0;
            for (int choice = kind == from ? firstChoice : 0; choice < CHOICES; choice++) {
                if (fits(left, kind, choice, least)) {
                    take(left, kind, choice, 1);
                    many += count(left, kind, choice, least, depth + 1);
                    take(left, kind, choice, -1);
                }
            }
            return many;
        }

        private static boolean fits(int[] left, int kind, int choice, int least) {
            if (choice < FIRST_GROUP) {
                return choice >= least && kind % ROW + choice <= ROW && hasRun(left, kind, choice);
            }
            int colours = at(GROUPS, choice - FIRST_GROUP + 1);
            return firstColour(colours) == kind / ROW && hasGroup(left, kind % ROW, colours);
        }

        private static boolean hasRun(int[] left, int kind, int length) {
            for (int i = 0; i < length; i++) {
                if (at(left, kind + i) == 0) {
                    return false;
                }
            }
            return true;
        }

        private static int firstColour(int colours) {
            return (colours & 1) == 1 ? 0 : 1;
        }

        private static boolean hasGroup(int[] left, int column, int colours) {
            for (int colour = 0; colour < COLOURS; colour++) {
                if ((colours >> 4 * colour & 1) == 1 && at(left, ROW * colour + column) == 0) {
                    return false;
                }
            }
            return true;
        }

        private static void take(int[] left, int kind, int choice, int by) {
            if (choice < FIRST_GROUP) {
                for (int i = 0; i < choice; i++) {
                    set(left, kind + i, at(left, kind + i) - by);
                }
                return;
            }
            int colours = at(GROUPS, choice - FIRST_GROUP + 1);
            for (int colour = 0; colour < COLOURS; colour++) {
                int place = ROW * colour + kind % ROW;
                set(left, place, at(left, place) - by * (colours >> 4 * colour & 1));
            }
        }
    }

    /** How the runs of one colour can go on from one number to the next. */
    private static final class Steps {
        // Two runs of full length that began apart: if just one of them ends, there are two ways for it.
        private static final int APART = 15;

        private final int least;
        // For a state and how many tiles there are for runs, up to three steps, and 0 behind them.
        // A step: bits 0 to 3 the next state, 8 whether there are two ways, 16 and 17 how many runs begin.
        private final int[] apart = new int[256];
        private final int[] alike = new int[256];
        // The one step that begins the fewest runs. A run that begins where another one ends could go on from
        // it as well, so to know whether there is a cut at all, no other step is needed.
        private final int[] joined = new int[256];
        // For how many tiles there may be of the next three numbers, the states whose runs can grow full.
        private final int[] hopeful = new int[27];

        private Steps(int least) {
            this.least = least;
            for (int b = 0; b <= least; b++) {
                for (int a = 0; a <= b; a++) {
                    fillSteps(pair(a, b), a, b, false);
                }
            }
            fillSteps(APART, least, least, true);
            for (int i = 0; i < alike.length; i++) {
                int step = apart[i];
                alike[i] = (step & 15) == APART ? step - APART + pair(least, least) : step;
            }
            for (int i = 0; i < joined.length; i += 4) {
                joined[i] = fewestBegun(alike[i], fewestBegun(alike[i + 1], alike[i + 2]));
            }
            for (int i = 0; i < hopeful.length; i++) {
                hopeful[i] = statesWithin(i / 9, i / 3 % 3, i % 3);
            }
        }

        private static int pair(int a, int b) {
            return b * (b + 1) / 2 + a;
        }

        private void fillSteps(int state, int a, int b, boolean isApart) {
            boolean aEnds = a == 0 || a == least;
            boolean bEnds = b == 0 || b == least;
            int twice = isApart ? 1 : 0;
            if (aEnds && bEnds) {
                addStep(state, 0, pair(0, 0), 0, 0);
                addStep(state, 1, pair(0, 1), 0, 1);
                addStep(state, 2, pair(1, 1), 0, 2);
            }
            if (b > 0 && aEnds) {
                addStep(state, 1, pair(0, longer(b)), twice, 0);
                addStep(state, 2, pair(1, longer(b)), twice, 1);
            }
            if (a > 0 && a < b && bEnds) {
                addStep(state, 1, pair(0, longer(a)), 0, 0);
                addStep(state, 2, pair(1, longer(a)), 0, 1);
            }
            if (a > 0) {
                boolean staysApart = longer(a) == least && (isApart || a < b);
                addStep(state, 2, staysApart ? APART : pair(longer(a), longer(b)), 0, 0);
            }
        }

        private int longer(int length) {
            return Math.min(length + 1, least);
        }

        private void addStep(int state, int tiles, int next, int twice, int begun) {
            int from = (state & 15) << 4 | (tiles & 3) << 2;
            for (int i = from; i < from + 3; i++) {
                if (apart[i] == 0) {
                    apart[i] = next | twice << 8 | begun << 16 | 1 << 24;
                    return;
                }
            }
        }

        private static int fewestBegun(int step, int other) {
            boolean isFewer = other == 0 || step >> 16 < other >> 16;
            return step != 0 && isFewer ? step : other;
        }

        private int statesWithin(int one, int two, int three) {
            int states = 1 << APART;
            for (int b = 0; b <= least; b++) {
                for (int a = 0; a <= b; a++) {
                    if (needing(a, b, 1) <= one && needing(a, b, 2) <= two && needing(a, b, 3) <= three) {
                        states |= 1 << pair(a, b);
                    }
                }
            }
            return states;
        }

        private int needing(int a, int b, int more) {
            return (a > 0 && least - a >= more ? 1 : 0) + (b > 0 && least - b >= more ? 1 : 0);
        }

        private int hopefulWith(int one, int two, int three) {
            return at(hopeful, 9 * one + 3 * two + three);
        }
    }

    /** States, each with two numbers that a sweep keeps of the ways to it. */
    private static final class Layer {
        private static final int START = 1024;
        private static final int MOST = 1 << 16;

        private int[] code = new int[START];
        private long[] first = new long[START];
        private long[] second = new long[START];
        private int size;

        private void grow() {
            int length = Math.min(2 * code.length, MOST);
            code = Arrays.copyOf(code, length);
            first = Arrays.copyOf(first, length);
            second = Arrays.copyOf(second, length);
        }
    }

    /** Goes through the numbers, and from each state of runs to all that can follow it. */
    private static final class Sweep {
        private static final int STATES = 0;
        private static final int WHOLE = 1;
        private static final int COUNT = 2;
        private static final int EXTRA = 3;
        private static final int PLAN = 4;
        private static final int ALL = 0xFFFF;
        private static final int WAYS = 81;
        private static final int SPREAD = 81;
        private static final int MOST_TILES = 0x2222;
        private static final int KINDS_FIRST = 24;
        // Behind the bits of all kinds: that a way has no extra tile.
        private static final long BARE = 1L << KINDS;
        private static final long ONE_SET = 1L << 32 | 1L;

        private final Steps three = new Steps(3);
        private final Steps four = new Steps(4);
        private final int[] low = new int[KINDS];
        private final int[] high = new int[KINDS];
        private final int[] slot = new int[Layer.MOST];
        private Layer here = new Layer();
        private Layer there = new Layer();
        private final int[] wayTiles = new int[WAYS];
        private final long[] wayFirst = new long[WAYS];
        private final long[] waySecond = new long[WAYS];
        private final int[] wayAt = new int[MOST_TILES + 1];
        private int ways;
        private final int[] open = new int[COLOURS];
        private final int[] sure = new int[COLOURS];
        private Steps steps = three;
        private int[] table = three.alike;
        private int highest;
        private int mode;
        private boolean byWorth;

        private void clear() {
            Arrays.fill(low, 0);
            Arrays.fill(high, 0);
        }

        /** So many tiles of a kind are to be cut. */
        private void add(int kind, int many) {
            set(low, kind, Math.min(2, at(low, kind) + many));
            set(high, kind, at(low, kind));
        }

        /** So many tiles of a kind can be cut besides. */
        private void allow(int kind, int many) {
            set(high, kind, Math.min(2, at(low, kind) + Math.max(0, many)));
        }

        /**
         * Goes up to a number, and answers how many states there are. One number behind the highest
         * this is 1, with what is kept of all ways, or 0.
         */
        private int go(Rules rules, int newMode, int last) {
            steps = rules.least == 4 ? four : three;
            mode = newMode;
            table = mode == COUNT ? steps.apart : mode == STATES ? steps.alike : steps.joined;
            highest = rules.highest;
            here.size = 1;
            here.code[0] = 0;
            here.first[0] = mode == EXTRA ? BARE : mode == COUNT ? 1 : 0;
            here.second[0] = 0;
            for (int number = 1; number <= last && here.size > 0; number++) {
                gatherWays(number);
                lookAhead(number);
                there.size = 0;
                for (int i = 0; i < here.size && i < here.code.length; i++) {
                    spread(i);
                }
                turnOver();
            }
            return here.size;
        }

        private void turnOver() {
            for (int i = 0; i < there.size && i < there.code.length; i++) {
                slot[there.code[i] & ALL] = 0;
            }
            Layer before = here;
            here = there;
            there = before;
        }

        private int kindOf(int colour, int number) {
            return number >= 1 && number <= highest ? ROW * colour + number - 1 : NONE;
        }

        private int mostOf(int colour, int number) {
            int kind = kindOf(colour, number);
            if (mode == EXTRA && kind != NONE) {
                return Math.min(2, at(low, kind) + 1);
            }
            return at(high, kind);
        }

        /** Which states of each colour are worth going on from; where nothing is ahead, full runs alone. */
        private void lookAhead(int number) {
            for (int colour = 0; colour < COLOURS; colour++) {
                int next = kindOf(colour, number + 1);
                int second = kindOf(colour, number + 2);
                int third = kindOf(colour, number + 3);
                sure[colour] = steps.hopefulWith(at(low, next), at(low, second), at(low, third));
                open[colour] = mode == STATES ? ALL : steps.hopefulWith(mostOf(colour, number + 1),
                        mostOf(colour, number + 2), mostOf(colour, number + 3));
            }
        }

        /** All that can be left to the runs of a number, by groups and by tiles besides. */
        private void gatherWays(int number) {
            for (int way = 0; way < ways && way < WAYS; way++) {
                set(wayAt, wayTiles[way], 0);
            }
            ways = 0;
            int most0 = mostOf(0, number) - at(low, kindOf(0, number));
            int most1 = mostOf(1, number) - at(low, kindOf(1, number));
            int most2 = mostOf(2, number) - at(low, kindOf(2, number));
            int most3 = mostOf(3, number) - at(low, kindOf(3, number));
            for (int more0 = 0; more0 <= most0; more0++) {
                for (int more1 = 0; more1 <= most1; more1++) {
                    for (int more2 = 0; more2 <= most2; more2++) {
                        for (int more3 = 0; more3 <= most3; more3++) {
                            if (mode != EXTRA || more0 + more1 + more2 + more3 <= 1) {
                                groupAway(number, more0 | more1 << 4 | more2 << 8 | more3 << 12);
                            }
                        }
                    }
                }
            }
        }

        private void groupAway(int number, int more) {
            int tiles = more;
            long first = mode == EXTRA && more == 0 ? BARE : 0;
            long second = 0;
            for (int colour = 0; colour < COLOURS; colour++) {
                int kind = kindOf(colour, number);
                int many = more >> 4 * colour & 3;
                tiles += at(low, kind) << 4 * colour;
                if (many > 0 && mode == EXTRA) {
                    first |= 1L << kind;
                } else if (many > 0) {
                    first += many * firstWeight(kind);
                    second += many * secondWeight(kind);
                }
            }
            for (int group = 0; group < GROUPS.length; group++) {
                // With an 8 ahead of each colour none borrows of the next; it is gone where too few were there.
                int left = (tiles | 0x8888) - GROUPS[group];
                if ((left & 0x8888) == 0x8888) {
                    int sets = group == 0 ? 0 : group < FIRST_PAIR ? 1 : 2;
                    addWay(left & 0x3333, mode == COUNT ? sets : first, second);
                }
            }
        }

        private void addWay(int tiles, long first, long second) {
            if (tiles < 0 || tiles > MOST_TILES) {
                return;
            }
            int way = wayAt[tiles] - 1;
            if (way < 0 && ways < WAYS) {
                wayAt[tiles] = ways + 1;
                wayTiles[ways] = tiles;
                wayFirst[ways] = first;
                waySecond[ways] = second;
                ways++;
            } else if (way >= 0 && way < WAYS && mode == EXTRA) {
                wayFirst[way] |= first;
            } else if (way >= 0 && way < WAYS
                    && (first > wayFirst[way] || first == wayFirst[way] && second > waySecond[way])) {
                wayFirst[way] = first;
                waySecond[way] = second;
            }
        }

        // Of two plans the better one is the greater number: what counts first stands highest,
        // and two bits for each kind stand below it, those of lower kinds ahead.
        private long firstWeight(int kind) {
            int worth = kind % ROW + 1;
            long rank = byWorth ? 32 * worth + 1 : 512 + worth;
            return (rank << 2 * KINDS_FIRST)
                    + (kind < KINDS_FIRST ? 1L << 2 * (KINDS_FIRST - 1 - kind) : 0);
        }

        private long secondWeight(int kind) {
            return kind < KINDS_FIRST ? 0 : 1L << 2 * (KINDS - 1 - kind);
        }

        private static int tilesOf(long first, long second, int kind) {
            long many = kind < KINDS_FIRST ? first >>> 2 * (KINDS_FIRST - 1 - kind) : second >>> 2 * (KINDS - 1 - kind);
            return (int) (many & 3);
        }

        private void spread(int from) {
            int code = here.code[from];
            for (int way = 0; way < ways && way < WAYS; way++) {
                int tiles = wayTiles[way];
                int at0 = (code & 15) << 4 | (tiles & 3) << 2;
                int at1 = (code >> 4 & 15) << 4 | (tiles >> 4 & 3) << 2;
                int at2 = (code >> 8 & 15) << 4 | (tiles >> 8 & 3) << 2;
                int at3 = (code >> 12 & 15) << 4 | (tiles >> 12 & 3) << 2;
                if (table[at0] == 0 || table[at1] == 0 || table[at2] == 0 || table[at3] == 0) {
                    continue;
                }
                if (there.size + SPREAD > there.code.length) {
                    there.grow();
                }
                for (int i0 = at0; i0 < at0 + 3 && table[i0] != 0; i0++) {
                    int step0 = table[i0];
                    if ((open[0] >> (step0 & 15) & 1) == 0) {
                        continue;
                    }
                    for (int i1 = at1; i1 < at1 + 3 && table[i1] != 0; i1++) {
                        int step1 = table[i1];
                        if ((open[1] >> (step1 & 15) & 1) == 0) {
                            continue;
                        }
                        for (int i2 = at2; i2 < at2 + 3 && table[i2] != 0; i2++) {
                            int step2 = table[i2];
                            if ((open[2] >> (step2 & 15) & 1) == 0) {
                                continue;
                            }
                            for (int i3 = at3; i3 < at3 + 3 && table[i3] != 0; i3++) {
                                int step3 = table[i3];
                                if ((open[3] >> (step3 & 15) & 1) == 1) {
                                    int next = step0 & 15 | (step1 & 15) << 4 | (step2 & 15) << 8 | (step3 & 15) << 12;
                                    put(from, way, next, step0 + step1 + step2 + step3);
                                }
                            }
                        }
                    }
                }
            }
        }

        /** Keeps that a state is come to; steps is the sum of those that led there. */
        private void put(int from, int way, int code, int stepsTaken) {
            long first = here.first[from];
            long second = here.second[from];
            if (mode == PLAN) {
                first += wayFirst[way];
                second += waySecond[way];
            } else if (mode == COUNT) {
                first = (first << (stepsTaken >> 8 & 7)) % MODULUS;
                second += ONE_SET * ((stepsTaken >> 16 & 15) + wayFirst[way]);
            } else if (mode == EXTRA) {
                first = withExtras(first, wayFirst[way], code);
                if (first == 0) {
                    return;
                }
            }
            int place = slot[code & ALL] - 1;
            if (place < 0) {
                append(code, first, second);
            } else if (place < there.size && place < there.code.length) {
                merge(place, first, second);
            }
        }

        private void append(int code, long first, long second) {
            int place = there.size;
            if (place < there.code.length) {
                there.code[place] = code;
                there.first[place] = first;
                there.second[place] = second;
                there.size++;
                slot[code & ALL] = place + 1;
            }
        }

        private void merge(int place, long first, long second) {
            long[] firsts = there.first;
            long[] seconds = there.second;
            if (mode == EXTRA) {
                firsts[place] |= first;
            } else if (mode == COUNT) {
                firsts[place] = (firsts[place] + first) % MODULUS;
                long before = seconds[place];
                long fewest = before >>> 32 < second >>> 32 ? before >>> 32 : second >>> 32;
                long most = (int) before > (int) second ? (int) before : (int) second;
                seconds[place] = fewest << 32 | most;
            } else if (mode == PLAN
                    && (first > firsts[place] || first == firsts[place] && second > seconds[place])) {
                firsts[place] = first;
                seconds[place] = second;
            }
        }

        /** The extras with which a way goes on to a state: those of before, if it takes none now, or its own. */
        private long withExtras(long before, long now, int code) {
            long extras = ((now & BARE) != 0 ? before : 0) | ((before & BARE) != 0 ? now & ~BARE : 0);
            int lacking = 0;
            for (int colour = 0; colour < COLOURS; colour++) {
                lacking += sure[colour] >> (code >> 4 * colour & 15) & 1 ^ 1;
            }
            return lacking == 0 ? extras : lacking == 1 ? extras & BARE : 0;
        }
    }
}
