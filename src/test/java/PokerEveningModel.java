import java.math.BigInteger;
import java.util.ArrayDeque;
import java.util.ArrayList;
import java.util.Collections;
import java.util.Deque;
import java.util.List;
import java.util.Random;
import java.util.regex.Matcher;
import java.util.regex.Pattern;

/**
 * Random runs of calls, compared with a second writing of the document that shares no thought with
 * the class: values that never change, no clever search. The seeds are fixed, so a run can be had again.
 */
public final class PokerEveningModel {
    private static final int BAD = -1, NO = -2, FULL = -3, NONE = -4;
    private static final int RUNS = 700, CALLS = 512;
    private static final String[] NAMES = {"write", "wipe", "fault", "lay", "teller", "fact", "claim", "turn", "add",
        "strike", "shift", "grip", "undo", "drops", "told", "hot", "hottest", "order", "leave", "holds", "seen", "forget",
        "worlds", "next", "kinds", "grips", "likely", "evenings", "keep", "back", "count"};

    record Teller(int kind, int grip) { }

    record Claim(int teller, int fact, int value, int weight) { }

    record Place(List<Teller> tellers, List<Boolean> facts, List<Claim> claims) {
        Place {
            tellers = List.copyOf(tellers);
            facts = List.copyOf(facts);
            claims = List.copyOf(claims);
        }

        Place withTellers(List<Teller> others) {
            return new Place(others, facts, claims);
        }

        Place withFacts(List<Boolean> others) {
            return new Place(tellers, others, claims);
        }

        Place withClaims(List<Claim> others) {
            return new Place(tellers, facts, others);
        }

        Place withTeller(int t, Teller other) {
            List<Teller> others = new ArrayList<>(tellers);
            others.set(t, other);
            return withTellers(others);
        }

        Place withWorld(int world) {
            List<Boolean> others = new ArrayList<>();
            for (int f = 0; f < facts.size(); f++) {
                others.add((world & 1 << f) != 0);
            }
            return withFacts(others);
        }

        boolean lies(Claim claim) {
            return facts.get(claim.fact) != (claim.value == 1);
        }
    }

    /** hots: heat of each claim in its place, null if it is not told; drops: place of letting go, null if not. */
    record Night(Integer[] hots, Integer[] drops) {
        int toldCount() {
            int many = 0;
            for (Integer hot : hots) {
                many += hot == null ? 0 : 1;
            }
            return many;
        }

        int dropCount() {
            int many = 0;
            for (Integer drop : drops) {
                many += drop == null ? 0 : 1;
            }
            return many;
        }

        int hottest() {
            int most = 0;
            for (Integer hot : hots) {
                most = hot == null ? most : Math.max(most, hot);
            }
            return most;
        }
    }

    static Night night(Place p) {
        Integer[] hots = new Integer[p.claims.size()];
        Integer[] drops = new Integer[p.tellers.size()];
        int heat = 0;
        Integer before = null;
        for (int c = 0; c < hots.length; c++) {
            Claim claim = p.claims.get(c);
            if (drops[claim.teller] != null) {
                continue;
            }
            if (before != null && before != claim.teller) {
                heat = (int) Math.floor(heat / 2.0);
            }
            before = claim.teller;
            Teller teller = p.tellers.get(claim.teller);
            boolean lie = p.lies(claim);
            int[] more = {lie ? claim.weight : 1, lie ? claim.weight / 2 : 0, lie ? claim.weight * 2 : 1,
                lie ? claim.weight + 1 : 2};
            heat += more[teller.kind];
            hots[c] = heat;
            if (heat > teller.grip) {
                drops[claim.teller] = c;
                heat = 0;
            }
        }
        return new Night(hots, drops);
    }

    private static final Pattern ITEM = Pattern.compile(
            "t(\\d\\d?),(\\d\\d?);|f(\\d\\d?);|c(\\d\\d?),(\\d\\d?),(\\d\\d?),(\\d\\d?);");

    private String text = "";
    private Place place = read(
            "t0,10;t1,8;t2,12;t3,9;f1;f0;f1;f0;c0,0,1,9;c0,1,1,8;c1,2,0,14;c0,3,1,6;c2,1,1,5;c3,3,0,20;c2,0,0,4;");
    private final List<int[]> seen = new ArrayList<>();
    private final Deque<Place> past = new ArrayDeque<>();
    private final Deque<Place> kept = new ArrayDeque<>();
    private int faultPlace;

    private Place read(String letters) {
        Place p = new Place(List.of(), List.of(), List.of());
        Matcher m = ITEM.matcher(letters);
        int start = 0;
        while (start < letters.length()) {
            m.region(start, letters.length());
            Place more = m.lookingAt() ? withItem(p, m) : null;
            if (more == null) {
                faultPlace = start;
                return null;
            }
            p = more;
            start = m.end();
        }
        faultPlace = NONE;
        return p;
    }

    private static Place withItem(Place p, Matcher m) {
        List<Teller> tellers = new ArrayList<>(p.tellers);
        List<Boolean> facts = new ArrayList<>(p.facts);
        List<Claim> claims = new ArrayList<>(p.claims);
        boolean fine;
        if (m.group(1) != null) {
            Teller t = new Teller(Integer.parseInt(m.group(1)), Integer.parseInt(m.group(2)));
            fine = t.kind < 4 && t.grip > 0 && t.grip < 41 && tellers.size() < 5;
            tellers.add(t);
        } else if (m.group(3) != null) {
            int v = Integer.parseInt(m.group(3));
            fine = v < 2 && facts.size() < 6;
            facts.add(v == 1);
        } else {
            Claim c = new Claim(Integer.parseInt(m.group(4)), Integer.parseInt(m.group(5)),
                    Integer.parseInt(m.group(6)), Integer.parseInt(m.group(7)));
            fine = c.teller < tellers.size() && c.fact < facts.size() && c.value < 2 && c.weight > 0 && c.weight < 21
                    && claims.size() < 7;
            claims.add(c);
        }
        return fine ? new Place(tellers, facts, claims) : null;
    }

    private static boolean in(int number, int least, int most) {
        return least <= number && number <= most;
    }

    private boolean teller(int t) {
        return in(t, 0, place.tellers.size() - 1);
    }

    private boolean claim(int c) {
        return in(c, 0, place.claims.size() - 1);
    }

    private boolean fact(int f) {
        return in(f, 0, place.facts.size() - 1);
    }

    private void act(Place then) {
        past.push(place);
        if (past.size() > 8) {
            past.removeLast();
        }
        place = then;
    }

    private boolean fits(Place p) {
        Night night = night(p);
        for (int[] s : seen) {
            Integer drop = night.drops[s[0]];
            if (s[1] == 7 ? drop != null : drop == null || drop != s[1]) {
                return false;
            }
        }
        return true;
    }

    private List<Integer> fittingWorlds() {
        List<Integer> fitting = new ArrayList<>();
        for (int world = 0; world < 1 << place.facts.size(); world++) {
            if (fits(place.withWorld(world))) {
                fitting.add(world);
            }
        }
        return fitting;
    }

    int answer(String name, int a, int b, int c, int d) {
        switch (name) {
            case "write":
                if (!in(a, 32, 126)) {
                    return BAD;
                }
                if (text.length() == 200) {
                    return FULL;
                }
                text += (char) a;
                return text.length();
            case "wipe":
                int length = text.length();
                text = "";
                return length;
            case "fault":
                read(text);
                return faultPlace;
            case "lay":
                return lay();
            case "teller":
                return teller(a) && in(b, 0, 1) ? b == 0 ? place.tellers.get(a).kind : place.tellers.get(a).grip : BAD;
            case "fact":
                return fact(a) ? place.facts.get(a) ? 1 : 0 : BAD;
            case "claim":
                if (!claim(a) || !in(b, 0, 4)) {
                    return BAD;
                }
                Claim of = place.claims.get(a);
                return new int[] {of.teller, of.fact, of.value, of.weight, place.lies(of) ? 1 : 0}[b];
            case "turn":
            case "add":
            case "strike":
            case "shift":
            case "grip":
            case "undo":
                return answerAct(name, a, b, c, d);
            case "drops":
                return !teller(a) ? BAD : orNone(night(place).drops[a]);
            case "told":
                int bits = 0;
                for (int i = 0; i < place.claims.size(); i++) {
                    bits += night(place).hots[i] == null ? 0 : 1 << i;
                }
                return bits;
            case "hot":
                return !claim(a) ? BAD : orNone(night(place).hots[a]);
            case "hottest":
                return night(place).hottest();
            case "order":
                return order(a);
            case "leave":
                return !teller(a) || !in(b, 0, 1) ? BAD : leave(a, b);
            case "holds":
                return !teller(a) || !in(b, 0, 1) ? BAD : holds(a, b);
            default:
                return answerSeen(name, a, b, c);
        }
    }

    private int answerAct(String name, int a, int b, int c, int d) {
        List<Claim> claims = new ArrayList<>(place.claims);
        switch (name) {
            case "turn":
                if (!fact(a)) {
                    return BAD;
                }
                List<Boolean> facts = new ArrayList<>(place.facts);
                facts.set(a, !facts.get(a));
                act(place.withFacts(facts));
                return facts.get(a) ? 1 : 0;
            case "add":
                if (!teller(a) || !fact(b) || !in(c, 0, 1) || !in(d, 1, 20)) {
                    return BAD;
                }
                if (claims.size() == 7) {
                    return FULL;
                }
                claims.add(new Claim(a, b, c, d));
                act(place.withClaims(claims));
                return claims.size() - 1;
            case "strike":
                if (!claim(a)) {
                    return BAD;
                }
                claims.remove(a);
                act(place.withClaims(claims));
                return claims.size();
            case "shift":
                if (!claim(a) || !claim(b)) {
                    return BAD;
                }
                if (a == b) {
                    return NO;
                }
                Claim moved = claims.remove(a);
                claims.add(b, moved);
                act(place.withClaims(claims));
                return a - b + 10;
            case "grip":
                if (!teller(a) || !in(b, 1, 40)) {
                    return BAD;
                }
                Teller was = place.tellers.get(a);
                if (was.grip == b) {
                    return NO;
                }
                act(place.withTeller(a, new Teller(was.kind, b)));
                return was.grip;
            default:
                if (past.isEmpty()) {
                    return NO;
                }
                place = past.pop();
                return past.size();
        }
    }

    private int answerSeen(String name, int a, int b, int c) {
        switch (name) {
            case "seen":
                if (!teller(a) || !in(b, 0, 7)) {
                    return BAD;
                }
                if (seen.size() == 6) {
                    return FULL;
                }
                seen.add(new int[] {a, b});
                return seen.size();
            case "forget":
                int many = seen.size();
                seen.clear();
                return many;
            case "worlds":
                return !in(a, 0, 3) ? BAD : worlds(a);
            case "next":
                return !teller(a) || !in(b, 1, 20) ? BAD : next(a, b);
            case "kinds":
                if (!teller(a)) {
                    return BAD;
                }
                int bits = 0;
                for (int kind = 0; kind < 4; kind++) {
                    bits += fits(place.withTeller(a, new Teller(kind, place.tellers.get(a).grip))) ? 1 << kind : 0;
                }
                return bits;
            case "grips":
                return !teller(a) || !in(b, 0, 1) ? BAD : grips(a, b);
            case "likely":
                return !teller(a) || !in(b, 0, 10) || !in(c, 0, 1) ? BAD : likely(a, b, c);
            case "evenings":
                return !in(a, 0, 9999) || !in(b, 1, 60) || !in(c, 0, 2) ? BAD : evenings(a, b, c);
            case "keep":
                if (kept.size() == 2) {
                    return FULL;
                }
                kept.push(place);
                return kept.size();
            case "back":
                if (kept.isEmpty()) {
                    return NO;
                }
                place = kept.pop();
                past.clear();
                return kept.size();
            default:
                return count(a);
        }
    }

    private static int orNone(Integer number) {
        return number == null ? NONE : number;
    }

    private int lay() {
        Place p = read(text);
        if (p == null || p.tellers.isEmpty() || p.facts.isEmpty()) {
            return NO;
        }
        place = p;
        seen.clear();
        past.clear();
        kept.clear();
        return p.tellers.size();
    }

    private int order(int k) {
        if (k != -1 && !claim(k)) {
            return BAD;
        }
        List<Integer> order = new ArrayList<>();
        for (int c = 0; c < place.claims.size(); c++) {
            order.add(c);
        }
        int most = -1;
        List<Integer> best = List.of();
        do {
            List<Claim> claims = new ArrayList<>();
            for (int c : order) {
                claims.add(place.claims.get(c));
            }
            int told = night(place.withClaims(claims)).toldCount();
            if (told > most) {
                most = told;
                best = List.copyOf(order);
            }
        } while (nextOrder(order));
        return k == -1 ? most : best.get(k);
    }

    private static boolean nextOrder(List<Integer> order) {
        int i = order.size() - 2;
        while (i >= 0 && order.get(i) > order.get(i + 1)) {
            i--;
        }
        if (i < 0) {
            return false;
        }
        int j = order.size() - 1;
        while (order.get(j) < order.get(i)) {
            j--;
        }
        Collections.swap(order, i, j);
        Collections.reverse(order.subList(i + 1, order.size()));
        return true;
    }

    private int leave(int t, int what) {
        int n = place.claims.size();
        for (int many = 0; many <= n; many++) {
            for (int left = 0; left < 1 << n; left++) {
                List<Claim> claims = new ArrayList<>();
                for (int c = 0; c < n; c++) {
                    if ((left & 1 << c) == 0) {
                        claims.add(place.claims.get(c));
                    }
                }
                if (claims.size() == n - many && night(place.withClaims(claims)).drops[t] == null) {
                    return what == 0 ? many : left;
                }
            }
        }
        throw new IllegalStateException("without any claim nobody lets go");
    }

    private int holds(int t, int what) {
        for (int gone = 0; gone <= 5; gone++) {
            for (int other = 0; other < place.tellers.size(); other++) {
                List<Claim> claims = new ArrayList<>();
                for (Claim c : place.claims) {
                    claims.add(c.teller == t ? new Claim(other, c.fact, c.value, c.weight) : c);
                }
                if (night(place.withClaims(claims)).dropCount() == gone) {
                    return what == 0 ? other : gone;
                }
            }
        }
        throw new IllegalStateException("five at most let go");
    }

    private int worlds(int what) {
        List<Integer> fitting = fittingWorlds();
        if (what == 0) {
            return fitting.size();
        }
        if (fitting.isEmpty()) {
            return NONE;
        }
        if (what == 1) {
            return fitting.get(0);
        }
        int bits = 0;
        for (int f = 0; f < place.facts.size(); f++) {
            int so = 0;
            for (int world : fitting) {
                so += world >> f & 1;
            }
            if (so == (what == 2 ? fitting.size() : 0)) {
                bits += 1 << f;
            }
        }
        return bits;
    }

    private int next(int t, int h) {
        List<Integer> fitting = fittingWorlds();
        int n = place.claims.size();
        if (n == 7 || fitting.isEmpty()) {
            return NONE;
        }
        int best = NONE;
        int fewest = 1000;
        for (int f = 0; f < place.facts.size(); f++) {
            List<Claim> claims = new ArrayList<>(place.claims);
            claims.add(new Claim(t, f, 1, h));
            int[] parts = new int[2];
            for (int world : fitting) {
                Integer drop = night(place.withClaims(claims).withWorld(world)).drops[t];
                parts[drop != null && drop == n ? 1 : 0]++;
            }
            int more = Math.max(parts[0], parts[1]);
            if (more < fewest) {
                fewest = more;
                best = f;
            }
        }
        return best;
    }

    private int grips(int t, int what) {
        List<Integer> fitting = new ArrayList<>();
        for (int grip = 1; grip <= 40; grip++) {
            if (fits(place.withTeller(t, new Teller(place.tellers.get(t).kind, grip)))) {
                fitting.add(grip);
            }
        }
        return what == 0 ? fitting.size() : fitting.isEmpty() ? NONE : fitting.get(0);
    }

    private int likely(int t, int x, int part) {
        BigInteger above = BigInteger.ZERO;
        int n = place.facts.size();
        for (int world = 0; world < 1 << n; world++) {
            if (night(place.withWorld(world)).drops[t] != null) {
                int so = Integer.bitCount(world);
                above = above.add(BigInteger.valueOf(x).pow(so).multiply(BigInteger.valueOf(10 - x).pow(n - so)));
            }
        }
        BigInteger below = BigInteger.TEN.pow(n);
        return (part == 0 ? above : below).divide(above.gcd(below)).intValueExact();
    }

    private int evenings(int z, int n, int what) {
        Place p = place;
        int[] sums = new int[3];
        for (int i = 0; i < n; i++) {
            BigInteger x = BigInteger.valueOf(7919L * z + 6151L * i + 1);
            int draw = x.pow(2).mod(BigInteger.valueOf(65521)).intValueExact() / 2;
            if ((draw / 8) % 2 == 0) {
                List<Boolean> facts = new ArrayList<>(p.facts);
                int f = draw % facts.size();
                facts.set(f, !facts.get(f));
                p = p.withFacts(facts);
            }
            if ((draw / 16) % 4 == 0 && !p.claims.isEmpty()) {
                List<Claim> claims = new ArrayList<>(p.claims);
                claims.add(claims.remove(0));
                p = p.withClaims(claims);
            }
            Night night = night(p);
            sums[0] += night.dropCount();
            sums[1] += night.toldCount();
            sums[2] = Math.max(sums[2], night.hottest());
        }
        return sums[what];
    }

    private int count(int what) {
        if (!in(what, 0, 10)) {
            return BAD;
        }
        int so = Collections.frequency(place.facts, true);
        int lies = 0;
        for (Claim c : place.claims) {
            lies += place.lies(c) ? 1 : 0;
        }
        Night night = night(place);
        return new int[] {place.tellers.size(), place.facts.size(), place.claims.size(), so, lies, night.toldCount(),
            night.dropCount(), seen.size(), past.size(), kept.size(), text.length()}[what];
    }

    // The runs

    static int ask(PokerEvening x, String name, int a, int b, int c, int d) {
        switch (name) {
            case "write": return x.write(a);
            case "wipe": return x.wipe();
            case "fault": return x.fault();
            case "lay": return x.lay();
            case "teller": return x.teller(a, b);
            case "fact": return x.fact(a);
            case "claim": return x.claim(a, b);
            case "turn": return x.turn(a);
            case "add": return x.add(a, b, c, d);
            case "strike": return x.strike(a);
            case "shift": return x.shift(a, b);
            case "grip": return x.grip(a, b);
            case "undo": return x.undo();
            case "drops": return x.drops(a);
            case "told": return x.told();
            case "hot": return x.hot(a);
            case "hottest": return x.hottest();
            case "order": return x.order(a);
            case "leave": return x.leave(a, b);
            case "holds": return x.holds(a, b);
            case "seen": return x.seen(a, b);
            case "forget": return x.forget();
            case "worlds": return x.worlds(a);
            case "next": return x.next(a, b);
            case "kinds": return x.kinds(a);
            case "grips": return x.grips(a, b);
            case "likely": return x.likely(a, b, c);
            case "evenings": return x.evenings(a, b, c);
            case "keep": return x.keep();
            case "back": return x.back();
            default: return x.count(a);
        }
    }

    private final Random dice;

    private PokerEveningModel(long seed) {
        dice = new Random(seed);
    }

    /** Mostly near the numbers that there are, now and then at the ends of what an int can be. */
    private int number(int least, int most) {
        int roll = dice.nextInt(60);
        if (roll == 0) {
            return dice.nextInt();
        }
        if (roll == 1) {
            return dice.nextBoolean() ? Integer.MIN_VALUE : Integer.MAX_VALUE;
        }
        int wide = roll < 8 ? 1 : 0;
        return least - wide + dice.nextInt(most - least + 1 + 2 * wide);
    }

    private int[] argumentsOf(String name) {
        int t = number(0, Math.max(0, place.tellers.size() - 1));
        int f = number(0, Math.max(0, place.facts.size() - 1));
        int c = number(0, Math.max(0, place.claims.size() - 1));
        switch (name) {
            case "write": return new int[] {number(32, 126), 0, 0, 0};
            case "teller": return new int[] {t, number(0, 1), 0, 0};
            case "fact":
            case "turn": return new int[] {f, 0, 0, 0};
            case "claim": return new int[] {c, number(0, 4), 0, 0};
            case "add": return new int[] {t, f, number(0, 1), number(1, 20)};
            case "shift": return new int[] {c, number(0, Math.max(0, place.claims.size() - 1)), 0, 0};
            case "strike":
            case "hot": return new int[] {c, 0, 0, 0};
            case "grip": return new int[] {t, number(1, 40), 0, 0};
            case "order": return new int[] {number(-1, 6), 0, 0, 0};
            case "leave":
            case "holds":
            case "grips": return new int[] {t, number(0, 1), 0, 0};
            case "seen": return seenArguments(t);
            case "worlds": return new int[] {number(0, 3), 0, 0, 0};
            case "next": return new int[] {t, number(1, 20), 0, 0};
            case "likely": return new int[] {t, number(0, 10), number(0, 1), 0};
            case "evenings": return new int[] {number(0, 9999), number(1, 60), number(0, 2), 0};
            case "count": return new int[] {number(0, 10), 0, 0, 0};
            default: return new int[] {t, 0, 0, 0};
        }
    }

    /** What could be seen in some world, for the most part, else hardly a world would ever fit. */
    private int[] seenArguments(int t) {
        if (teller(t) && dice.nextInt(4) != 0) {
            Integer drop = night(place.withWorld(dice.nextInt(64))).drops[t];
            return new int[] {t, drop == null ? 7 : drop, 0, 0};
        }
        return new int[] {t, number(0, 7), 0, 0};
    }

    private String letters() {
        int tellers = 1 + dice.nextInt(5);
        int facts = 1 + dice.nextInt(6);
        int claims = dice.nextInt(9);
        StringBuilder s = new StringBuilder();
        for (int i = 0; i < tellers; i++) {
            s.append('t').append(dice.nextInt(4)).append(',').append(1 + dice.nextInt(dice.nextBoolean() ? 40 : 15)).append(';');
        }
        for (int i = 0; i < facts; i++) {
            s.append('f').append(dice.nextInt(8) == 0 ? "0" : "").append(dice.nextInt(2)).append(';');
        }
        for (int i = 0; i < claims; i++) {
            s.append('c').append(dice.nextInt(tellers)).append(',').append(dice.nextInt(facts)).append(',')
                    .append(dice.nextInt(2)).append(',').append(1 + dice.nextInt(20)).append(';');
        }
        if (dice.nextInt(3) == 0) {
            int spoilt = dice.nextInt(s.length());
            String signs = "tfc,;0123456789";
            s.setCharAt(spoilt, signs.charAt(dice.nextInt(signs.length())));
        }
        if (dice.nextInt(10) == 0) {
            s.setLength(dice.nextInt(s.length()));
        }
        return s.toString();
    }

    private int calls = 0;

    private boolean same(PokerEvening x, String name, int[] n) {
        calls++;
        int want = answer(name, n[0], n[1], n[2], n[3]);
        int got = ask(x, name, n[0], n[1], n[2], n[3]);
        if (got != want) {
            System.out.println("call " + calls + ": " + name + "(" + n[0] + ", " + n[1] + ", " + n[2] + ", " + n[3]
                    + ") answered " + got + ", due is " + want + " in " + place + ", text " + text);
        }
        return got == want;
    }

    private boolean writesRoom(PokerEvening x) {
        int[] none = new int[4];
        boolean fine = same(x, "wipe", none);
        for (char letter : letters().toCharArray()) {
            fine = fine && same(x, "write", new int[] {letter, 0, 0, 0});
        }
        return fine && same(x, "fault", none) && same(x, "lay", none);
    }

    private boolean runs() {
        PokerEvening x = new PokerEvening();
        boolean fine = true;
        while (fine && calls < CALLS) {
            if (CALLS - calls > 110 && (calls == 0 || dice.nextInt(150) == 0)) {
                fine = dice.nextInt(8) == 0 || writesRoom(x);
            }
            String name = NAMES[dice.nextInt(NAMES.length)];
            // The document's dearest question for the model is put less often.
            if (!name.equals("order") || dice.nextInt(3) == 0) {
                fine = fine && same(x, name, argumentsOf(name));
            }
        }
        return fine;
    }

    public static void main(String[] args) {
        int wrong = 0;
        for (int seed = 1; seed <= RUNS; seed++) {
            if (!new PokerEveningModel(seed).runs()) {
                System.out.println("seed " + seed + " is not as due");
                wrong++;
            }
        }
        System.out.println(RUNS - wrong + " runs of " + RUNS + " are as due");
        if (wrong != 0) {
            System.exit(1);
        }
    }
}
