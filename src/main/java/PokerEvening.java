/**
 * Poker, for getting at the truth of the fire: tellers hold an iron that heats as they go on
 * with their claims, and a thing is known by where they let go.
 */
public final class PokerEvening {
    public static final int BAD = -1, NO = -2, FULL = -3, NONE = -4;

    private static final int MOST_LETTERS = 200, MOST_TELLERS = 5, MOST_FACTS = 6, MOST_CLAIMS = 7;
    private static final int MOST_GRIP = 40, MOST_WEIGHT = 20, MOST_SEEN = 6, MOST_UNDONE = 8, MOST_KEPT = 2;
    private static final int PLAIN = 0, COLD = 1, CHILD = 2, OLD = 3;
    private static final int NOT_AT_ALL = 7;
    private static final int NOBODY = -1;
    private static final String FIRST_ROOM =
            "t0,10;t1,8;t2,12;t3,9;f1;f0;f1;f0;c0,0,1,9;c0,1,1,8;c1,2,0,14;c0,3,1,6;c2,1,1,5;c3,3,0,20;c2,0,0,4;";

    private final Text text = new Text();
    private final Room room = new Room();
    private final Room trial = new Room();
    private final Evening evening = new Evening();
    private final Search search = new Search();
    private final Sights sights = new Sights();
    private final Shelf past = new Shelf(MOST_UNDONE);
    private final Shelf kept = new Shelf(MOST_KEPT);

    public PokerEvening() {
        for (int i = 0; i < FIRST_ROOM.length(); i++) {
            text.append(FIRST_ROOM.charAt(i));
        }
        text.readInto(room);
        text.clear();
    }

    // ---- rooms

    public int write(int letter) {
        if (!within(letter, 32, 126)) {
            return BAD;
        }
        return text.append(letter) ? text.length : FULL;
    }

    public int wipe() {
        int length = text.length;
        text.clear();
        return length;
    }

    public int fault() {
        return text.readInto(trial);
    }

    public int lay() {
        if (text.readInto(trial) != NONE || trial.tellerCount == 0 || trial.factCount == 0) {
            return NO;
        }
        room.copyFrom(trial);
        sights.clear();
        past.clear();
        kept.clear();
        return room.tellerCount;
    }

    public int teller(int t, int what) {
        if (!room.isTeller(t)) {
            return BAD;
        }
        switch (what) {
            case 0: return at(room.kindOf, t);
            case 1: return at(room.gripOf, t);
            default: return BAD;
        }
    }

    public int fact(int f) {
        return room.isFact(f) ? bit(room.truth, f) : BAD;
    }

    public int claim(int c, int what) {
        if (!room.isClaim(c)) {
            return BAD;
        }
        switch (what) {
            case 0: return at(room.tellerOf, c);
            case 1: return at(room.factOf, c);
            case 2: return at(room.valueOf, c);
            case 3: return at(room.weightOf, c);
            case 4: return room.isFalse(c) ? 1 : 0;
            default: return BAD;
        }
    }

    // ---- acts

    public int turn(int f) {
        if (!room.isFact(f)) {
            return BAD;
        }
        past.push(room);
        room.turnFact(f);
        return bit(room.truth, f);
    }

    public int add(int t, int f, int v, int h) {
        if (!room.allowsClaim(t, f, v, h)) {
            return BAD;
        }
        if (room.claimCount >= MOST_CLAIMS) {
            return FULL;
        }
        past.push(room);
        room.addClaim(t, f, v, h);
        return room.claimCount - 1;
    }

    public int strike(int c) {
        if (!room.isClaim(c)) {
            return BAD;
        }
        past.push(room);
        room.removeClaim(c);
        return room.claimCount;
    }

    public int shift(int c, int k) {
        if (!room.isClaim(c) || !room.isClaim(k)) {
            return BAD;
        }
        if (c == k) {
            return NO;
        }
        past.push(room);
        room.moveClaim(c, k);
        return c - k + 10;
    }

    public int grip(int t, int g) {
        if (!room.isTeller(t) || !within(g, 1, MOST_GRIP)) {
            return BAD;
        }
        int before = at(room.gripOf, t);
        if (before == g) {
            return NO;
        }
        past.push(room);
        put(room.gripOf, t, g);
        return before;
    }

    public int undo() {
        return past.popInto(room) ? past.size : NO;
    }

    // ---- the evening

    public int drops(int t) {
        if (!room.isTeller(t)) {
            return BAD;
        }
        evening.hold(room);
        int where = at(evening.dropOf, t);
        return where == NOT_AT_ALL ? NONE : where;
    }

    public int told() {
        evening.hold(room);
        return evening.iron.told;
    }

    public int hot(int c) {
        if (!room.isClaim(c)) {
            return BAD;
        }
        evening.hold(room);
        return at(evening.hotOf, c);
    }

    public int hottest() {
        evening.hold(room);
        return evening.most;
    }

    // ---- what is best

    public int order(int k) {
        if (k != -1 && !room.isClaim(k)) {
            return BAD;
        }
        search.run(room);
        return k == -1 ? search.most : at(search.best, k);
    }

    public int leave(int t, int what) {
        if (!room.isTeller(t) || !within(what, 0, 1)) {
            return BAD;
        }
        int left = fewestLeft(t);
        return what == 0 ? Integer.bitCount(left) : left;
    }

    public int holds(int t, int what) {
        if (!room.isTeller(t) || !within(what, 0, 1)) {
            return BAD;
        }
        int best = 0;
        int fewest = MOST_TELLERS + 1;
        for (int other = 0; other < room.tellerCount; other++) {
            int gone = goneIfHeldBy(t, other);
            if (gone < fewest) {
                best = other;
                fewest = gone;
            }
        }
        return what == 0 ? best : fewest;
    }

    // ---- what was seen

    public int seen(int t, int k) {
        if (!room.isTeller(t) || !within(k, 0, NOT_AT_ALL)) {
            return BAD;
        }
        return sights.note(t, k) ? sights.size : FULL;
    }

    public int forget() {
        int size = sights.size;
        sights.clear();
        return size;
    }

    public int worlds(int what) {
        if (!within(what, 0, 3)) {
            return BAD;
        }
        long fitting = fittingWorlds();
        if (what == 0) {
            return Long.bitCount(fitting);
        }
        if (fitting == 0) {
            return NONE;
        }
        switch (what) {
            case 1: return lowestWorld(fitting);
            case 2: return sureFacts(fitting, 0);
            default: return sureFacts(fitting, room.worldCount() - 1);
        }
    }

    public int next(int t, int h) {
        if (!room.isTeller(t) || !within(h, 1, MOST_WEIGHT)) {
            return BAD;
        }
        long fitting = fittingWorlds();
        if (room.claimCount >= MOST_CLAIMS || fitting == 0) {
            return NONE;
        }
        int best = NONE;
        int fewest = room.worldCount() + 1;
        for (int f = 0; f < room.factCount; f++) {
            int parted = worldsOfDrop(fitting, t, f, h);
            int more = Math.max(parted, Long.bitCount(fitting) - parted);
            if (more < fewest) {
                best = f;
                fewest = more;
            }
        }
        return best;
    }

    public int kinds(int t) {
        if (!room.isTeller(t)) {
            return BAD;
        }
        trial.copyFrom(room);
        int fitting = 0;
        for (int kind = PLAIN; kind <= OLD; kind++) {
            put(trial.kindOf, t, kind);
            if (fits(trial)) {
                fitting |= 1 << kind;
            }
        }
        return fitting;
    }

    public int grips(int t, int what) {
        if (!room.isTeller(t) || !within(what, 0, 1)) {
            return BAD;
        }
        trial.copyFrom(room);
        int many = 0;
        int least = NONE;
        for (int grip = MOST_GRIP; grip >= 1; grip--) {
            put(trial.gripOf, t, grip);
            if (fits(trial)) {
                many++;
                least = grip;
            }
        }
        return what == 0 ? many : least;
    }

    // ---- chances, evenings

    public int likely(int t, int x, int part) {
        if (!room.isTeller(t) || !within(x, 0, 10) || !within(part, 0, 1)) {
            return BAD;
        }
        int above = 0;
        int below = 0;
        trial.copyFrom(room);
        for (int world = 0; world < room.worldCount(); world++) {
            int chance = chanceOf(world, x);
            below += chance;
            trial.truth = world;
            evening.hold(trial);
            if (bit(evening.iron.gone, t) == 1) {
                above += chance;
            }
        }
        int shared = greatestDivisor(above, below);
        if (shared == 0) {
            return BAD;
        }
        return part == 0 ? above / shared : below / shared;
    }

    public int evenings(int z, int n, int what) {
        if (!within(z, 0, 9999) || !within(n, 1, 60) || !within(what, 0, 2)) {
            return BAD;
        }
        int gone = 0;
        int told = 0;
        int most = 0;
        trial.copyFrom(room);
        for (int i = 0; i < n; i++) {
            stir(trial, draw(z, i));
            evening.hold(trial);
            gone += Integer.bitCount(evening.iron.gone);
            told += Integer.bitCount(evening.iron.told);
            most = Math.max(most, evening.most);
        }
        switch (what) {
            case 0: return gone;
            case 1: return told;
            default: return most;
        }
    }

    // ---- kept

    public int keep() {
        if (kept.size >= MOST_KEPT) {
            return FULL;
        }
        kept.push(room);
        return kept.size;
    }

    public int back() {
        if (!kept.popInto(room)) {
            return NO;
        }
        past.clear();
        return kept.size;
    }

    public int count(int what) {
        switch (what) {
            case 0: return room.tellerCount;
            case 1: return room.factCount;
            case 2: return room.claimCount;
            case 3: return Integer.bitCount(room.truth);
            case 4: return room.falseClaims();
            case 5: return Integer.bitCount(told());
            case 6: return goneTonight();
            case 7: return sights.size;
            case 8: return past.size;
            case 9: return kept.size;
            case 10: return text.length;
            default: return BAD;
        }
    }

    private int goneTonight() {
        evening.hold(room);
        return Integer.bitCount(evening.iron.gone);
    }

    /** The fewest claims, as bits, without which a teller does not let go. */
    private int fewestLeft(int t) {
        int all = (1 << room.claimCount) - 1;
        int best = all;
        for (int left = 0; left < all; left++) {
            if (Integer.bitCount(left) < Integer.bitCount(best) && !letsGoWithout(t, left)) {
                best = left;
            }
        }
        return best;
    }

    private boolean letsGoWithout(int t, int left) {
        Iron iron = evening.iron;
        iron.cool();
        for (int c = 0; c < room.claimCount; c++) {
            if (bit(left, c) == 0) {
                iron.take(room, c);
            }
        }
        return bit(iron.gone, t) == 1;
    }

    private int goneIfHeldBy(int t, int other) {
        trial.copyFrom(room);
        for (int c = 0; c < trial.claimCount; c++) {
            if (at(trial.tellerOf, c) == t) {
                put(trial.tellerOf, c, other);
            }
        }
        evening.hold(trial);
        return Integer.bitCount(evening.iron.gone);
    }

    private boolean fits(Room tried) {
        evening.hold(tried);
        return sights.agreeWith(evening);
    }

    /** The worlds that fit what was seen: there are 64 at most, so a long has a bit for each. */
    private long fittingWorlds() {
        trial.copyFrom(room);
        long fitting = 0;
        for (int world = 0; world < room.worldCount(); world++) {
            trial.truth = world;
            if (fits(trial)) {
                fitting |= 1L << world;
            }
        }
        return fitting;
    }

    private int lowestWorld(long fitting) {
        for (int world = 0; world < room.worldCount(); world++) {
            if (isIn(fitting, world)) {
                return world;
            }
        }
        return NONE;
    }

    private static boolean isIn(long fitting, int world) {
        return (fitting >> world & 1) == 1;
    }

    /** Facts that are so in all these worlds, once the facts of a mask are taken the other way. */
    private int sureFacts(long fitting, int mask) {
        int sure = room.worldCount() - 1;
        for (int world = 0; world < room.worldCount(); world++) {
            if (isIn(fitting, world)) {
                sure &= world ^ mask;
            }
        }
        return sure;
    }

    /** In how many of these worlds a teller lets go at one claim more, that a fact is so. */
    private int worldsOfDrop(long fitting, int t, int f, int h) {
        trial.copyFrom(room);
        trial.addClaim(t, f, 1, h);
        int many = 0;
        for (int world = 0; world < room.worldCount(); world++) {
            if (isIn(fitting, world)) {
                trial.truth = world;
                evening.hold(trial);
                if (at(evening.dropOf, t) == room.claimCount) {
                    many++;
                }
            }
        }
        return many;
    }

    /** How likely a world is, in parts of 10 to the power of how many facts there are. */
    private int chanceOf(int world, int x) {
        int chance = 1;
        for (int f = 0; f < room.factCount; f++) {
            chance *= bit(world, f) == 1 ? x : 10 - x;
        }
        return chance;
    }

    private static int draw(int z, int i) {
        long x = 7919L * z + 6151L * i + 1;
        return (int) (x * x % 65521 / 2);
    }

    private static void stir(Room stirred, int draw) {
        if (stirred.factCount > 0 && draw / 8 % 2 == 0) {
            stirred.turnFact(draw % stirred.factCount);
        }
        if (draw / 16 % 4 == 0 && stirred.claimCount > 0) {
            stirred.moveClaim(0, stirred.claimCount - 1);
        }
    }

    private static int greatestDivisor(int a, int b) {
        // Numbers up to a million need some thirty steps; the bound is there so that the end is seen.
        for (int step = 0; step < 100 && b != 0; step++) {
            int rest = a % b;
            a = b;
            b = rest;
        }
        return a;
    }

    private static boolean within(int number, int least, int most) {
        return number >= least && number <= most;
    }

    private static int bit(int bits, int i) {
        return bits >> i & 1;
    }

    // All rows are read and written by these two alone, so that no index is used that was not looked at.

    private static int at(int[] row, int i) {
        return i >= 0 && i < row.length ? row[i] : 0;
    }

    private static void put(int[] row, int i, int number) {
        if (i >= 0 && i < row.length) {
            row[i] = number;
        }
    }

    private static void copyRow(int[] from, int[] to) {
        System.arraycopy(from, 0, to, 0, Math.min(from.length, to.length));
    }

    /** Takes a number out of a row and puts it in at another place; those between close up. */
    private static void slide(int[] row, int from, int to) {
        int moved = at(row, from);
        for (int i = from; i < to; i++) {
            put(row, i, at(row, i + 1));
        }
        for (int i = from; i > to; i--) {
            put(row, i, at(row, i - 1));
        }
        put(row, to, moved);
    }

    /** Tellers, facts and claims as they stand. */
    private static final class Room {
        private final int[] kindOf = new int[MOST_TELLERS];
        private final int[] gripOf = new int[MOST_TELLERS];
        private final int[] tellerOf = new int[MOST_CLAIMS];
        private final int[] factOf = new int[MOST_CLAIMS];
        private final int[] valueOf = new int[MOST_CLAIMS];
        private final int[] weightOf = new int[MOST_CLAIMS];
        private int tellerCount;
        private int factCount;
        private int claimCount;
        private int truth;

        private void clear() {
            tellerCount = 0;
            factCount = 0;
            claimCount = 0;
            truth = 0;
        }

        private void copyFrom(Room other) {
            copyRow(other.kindOf, kindOf);
            copyRow(other.gripOf, gripOf);
            copyRow(other.tellerOf, tellerOf);
            copyRow(other.factOf, factOf);
            copyRow(other.valueOf, valueOf);
            copyRow(other.weightOf, weightOf);
            tellerCount = other.tellerCount;
            factCount = other.factCount;
            claimCount = other.claimCount;
            truth = other.truth;
        }

        private boolean isTeller(int t) {
            return t >= 0 && t < tellerCount;
        }

        private boolean isFact(int f) {
            return f >= 0 && f < factCount;
        }

        private boolean isClaim(int c) {
            return c >= 0 && c < claimCount;
        }

        private boolean allowsClaim(int t, int f, int v, int h) {
            return isTeller(t) && isFact(f) && within(v, 0, 1) && within(h, 1, MOST_WEIGHT);
        }

        private int worldCount() {
            return 1 << factCount;
        }

        private boolean addTeller(int kind, int grip) {
            if (tellerCount >= MOST_TELLERS || !within(kind, PLAIN, OLD) || !within(grip, 1, MOST_GRIP)) {
                return false;
            }
            put(kindOf, tellerCount, kind);
            put(gripOf, tellerCount, grip);
            tellerCount++;
            return true;
        }

        private boolean addFact(int v) {
            if (factCount >= MOST_FACTS || !within(v, 0, 1)) {
                return false;
            }
            truth |= v << factCount;
            factCount++;
            return true;
        }

        private boolean addClaim(int t, int f, int v, int h) {
            if (claimCount >= MOST_CLAIMS || !allowsClaim(t, f, v, h)) {
                return false;
            }
            put(tellerOf, claimCount, t);
            put(factOf, claimCount, f);
            put(valueOf, claimCount, v);
            put(weightOf, claimCount, h);
            claimCount++;
            return true;
        }

        private void turnFact(int f) {
            truth ^= 1 << f;
        }

        private void moveClaim(int c, int k) {
            slide(tellerOf, c, k);
            slide(factOf, c, k);
            slide(valueOf, c, k);
            slide(weightOf, c, k);
        }

        private void removeClaim(int c) {
            moveClaim(c, claimCount - 1);
            claimCount--;
        }

        private boolean isFalse(int c) {
            return bit(truth, at(factOf, c)) != at(valueOf, c);
        }

        private int falseClaims() {
            int many = 0;
            for (int c = 0; c < claimCount; c++) {
                if (isFalse(c)) {
                    many++;
                }
            }
            return many;
        }
    }

    /** The iron as it goes from hand to hand: all that the next claim depends on. */
    private static final class Iron {
        private int heat;
        private int holder;
        private int told;
        private int gone;

        private void cool() {
            heat = 0;
            holder = NOBODY;
            told = 0;
            gone = 0;
        }

        private void copyFrom(Iron other) {
            heat = other.heat;
            holder = other.holder;
            told = other.told;
            gone = other.gone;
        }

        /** A claim's turn: how hot the iron is as it has been told, or NONE if its teller has let go. */
        private int take(Room room, int c) {
            int t = at(room.tellerOf, c);
            if (bit(gone, t) == 1) {
                return NONE;
            }
            if (holder != t) {
                heat /= 2;
            }
            heat += heating(at(room.kindOf, t), room.isFalse(c), at(room.weightOf, c));
            holder = t;
            told |= 1 << c;
            int hot = heat;
            if (hot > at(room.gripOf, t)) {
                gone |= 1 << t;
                heat = 0;
            }
            return hot;
        }

        /** By how much the iron is hotter once one of a kind has told a claim. */
        private static int heating(int kind, boolean isFalse, int weight) {
            int plain = isFalse ? weight : 1;
            switch (kind) {
                case COLD: return plain / 2;
                case CHILD: return isFalse ? 2 * plain : plain;
                case OLD: return plain + 1;
                default: return plain;
            }
        }
    }

    /** An evening, with what is known of each claim and each teller behind it. */
    private static final class Evening {
        private final Iron iron = new Iron();
        private final int[] hotOf = new int[MOST_CLAIMS];
        private final int[] dropOf = new int[MOST_TELLERS];
        private int most;

        private void hold(Room room) {
            begin();
            for (int c = 0; c < room.claimCount; c++) {
                int goneBefore = iron.gone;
                int hot = iron.take(room, c);
                put(hotOf, c, hot);
                most = Math.max(most, hot);
                if (iron.gone != goneBefore) {
                    put(dropOf, at(room.tellerOf, c), c);
                }
            }
        }

        private void begin() {
            iron.cool();
            most = 0;
            for (int t = 0; t < MOST_TELLERS; t++) {
                put(dropOf, t, NOT_AT_ALL);
            }
        }
    }

    /** Looks for the order of the claims by which most are told. */
    private static final class Search {
        private final Iron[] stages = new Iron[MOST_CLAIMS + 1];
        private final int[] path = new int[MOST_CLAIMS];
        private final int[] best = new int[MOST_CLAIMS];
        private int most;

        private Search() {
            for (int i = 0; i < stages.length; i++) {
                stages[i] = new Iron();
            }
        }

        private void run(Room room) {
            most = -1;
            Iron first = stageAt(0);
            if (first != null) {
                first.cool();
                look(room, 0, 0);
            }
        }

        /** Tries the lowest claims first, so that of several best orders the first one is found first. */
        private void look(Room room, int depth, int used) {
            Iron now = stageAt(depth);
            if (now == null || Integer.bitCount(now.told) + tellable(room, used, now.gone) <= most) {
                return;
            }
            if (depth == room.claimCount) {
                most = Integer.bitCount(now.told);
                copyRow(path, best);
                return;
            }
            Iron then = stageAt(depth + 1);
            for (int c = 0; then != null && c < room.claimCount; c++) {
                if (bit(used, c) == 0) {
                    put(path, depth, c);
                    then.copyFrom(now);
                    then.take(room, c);
                    look(room, depth + 1, used | 1 << c);
                }
            }
        }

        /** How many claims could at best still be told: looking on is idle where these are too few. */
        private static int tellable(Room room, int used, int gone) {
            int many = 0;
            for (int c = 0; c < room.claimCount; c++) {
                if (bit(used, c) == 0 && bit(gone, at(room.tellerOf, c)) == 0) {
                    many++;
                }
            }
            return many;
        }

        private Iron stageAt(int depth) {
            return depth >= 0 && depth < stages.length ? stages[depth] : null;
        }
    }

    /** What was seen: who let go at which claim, or not at all. */
    private static final class Sights {
        private final int[] tellerOf = new int[MOST_SEEN];
        private final int[] dropOf = new int[MOST_SEEN];
        private int size;

        private void clear() {
            size = 0;
        }

        private boolean note(int t, int k) {
            if (size >= MOST_SEEN) {
                return false;
            }
            put(tellerOf, size, t);
            put(dropOf, size, k);
            size++;
            return true;
        }

        private boolean agreeWith(Evening evening) {
            for (int i = 0; i < size; i++) {
                if (at(evening.dropOf, at(tellerOf, i)) != at(dropOf, i)) {
                    return false;
                }
            }
            return true;
        }
    }

    /** Rooms put by, the latest on top; its rooms are made once and used again. */
    private static final class Shelf {
        private final Room[] rooms;
        private int size;

        private Shelf(int most) {
            rooms = new Room[Math.max(most, 1)];
            for (int i = 0; i < rooms.length; i++) {
                rooms[i] = new Room();
            }
        }

        private void clear() {
            size = 0;
        }

        private void push(Room room) {
            if (size >= rooms.length) {
                dropOldest();
            }
            Room top = roomAt(size);
            if (top != null) {
                top.copyFrom(room);
                size++;
            }
        }

        private boolean popInto(Room room) {
            Room top = roomAt(size - 1);
            if (top == null) {
                return false;
            }
            room.copyFrom(top);
            size--;
            return true;
        }

        private void dropOldest() {
            Room oldest = roomAt(0);
            for (int i = 1; i < rooms.length; i++) {
                rooms[i - 1] = rooms[i];
            }
            if (rooms.length > 0) {
                rooms[rooms.length - 1] = oldest;
            }
            size--;
        }

        private Room roomAt(int i) {
            return i >= 0 && i < rooms.length ? rooms[i] : null;
        }
    }

    /** The text, and its reading item by item. */
    private static final class Text {
        private final int[] letters = new int[MOST_LETTERS];
        private final int[] numbers = new int[4];
        private int length;
        private int place;

        private void clear() {
            length = 0;
        }

        private boolean append(int letter) {
            if (length >= MOST_LETTERS) {
                return false;
            }
            put(letters, length, letter);
            length++;
            return true;
        }

        /** Reads the items into a room: the place of the first that is not so, or NONE. */
        private int readInto(Room room) {
            room.clear();
            place = 0;
            for (int items = 0; items < MOST_LETTERS && place < length; items++) {
                int start = place;
                if (!readItem(room)) {
                    return start;
                }
            }
            return NONE;
        }

        private boolean readItem(Room room) {
            switch (take()) {
                case 't': return readNumbers(2) && room.addTeller(at(numbers, 0), at(numbers, 1));
                case 'f': return readNumbers(1) && room.addFact(at(numbers, 0));
                case 'c': return readNumbers(4)
                        && room.addClaim(at(numbers, 0), at(numbers, 1), at(numbers, 2), at(numbers, 3));
                default: return false;
            }
        }

        private boolean readNumbers(int many) {
            for (int i = 0; i < many; i++) {
                if (!isFigure(peek())) {
                    return false;
                }
                int number = take() - '0';
                if (isFigure(peek())) {
                    number = 10 * number + take() - '0';
                }
                put(numbers, i, number);
                if (take() != (i + 1 < many ? ',' : ';')) {
                    return false;
                }
            }
            return true;
        }

        private static boolean isFigure(int letter) {
            return letter >= '0' && letter <= '9';
        }

        /** The letter at the place of reading, or 0 behind the last: what a wiped text held does not count. */
        private int peek() {
            return place < length ? at(letters, place) : 0;
        }

        private int take() {
            int letter = peek();
            place++;
            return letter;
        }
    }
}
