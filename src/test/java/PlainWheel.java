import java.math.BigInteger;
import java.util.ArrayList;
import java.util.Collections;
import java.util.List;
import java.util.TreeMap;

/**
 * The document read a second time, as slowly and plainly as can be, with none of the program's shortcuts:
 * RandomRunsTest holds the program's answers against these.
 */
final class PlainWheel {
    static final int NONE = -6, UNKNOWN = -1, OUTSIDE = -2, STATE = -3, FULL = -4, NO = -5;
    static final long LOST = -1000000000000000000L;

    /** A wheel that is told anew for each change. */
    static final class Ring {
        final TreeMap<Integer, Integer> carOf = new TreeMap<>();
        final TreeMap<Integer, Integer> stones = new TreeMap<>();
        final TreeMap<Integer, Integer> heavy = new TreeMap<>();
        int foot = 0;
        int drag = 20;

        Ring() {
            for (int i = 0; i < 8; i++) {
                heavy.put(i, 10);
                stones.put(i, 0);
            }
        }

        Ring same() {
            Ring r = new Ring();
            r.carOf.putAll(carOf);
            r.stones.putAll(stones);
            r.heavy.putAll(heavy);
            r.foot = foot;
            r.drag = drag;
            return r;
        }

        int who(int car) {
            for (int p : carOf.keySet()) {
                if (carOf.get(p) == car) {
                    return p;
                }
            }
            return NONE;
        }

        boolean aboard(int p) {
            return carOf.containsKey(p);
        }

        int pull() {
            int sum = 0;
            for (int place = 0; place < 8; place++) {
                int arm = place == 2 ? 10 : place == 6 ? -10 : place == 1 || place == 3 ? 7
                        : place == 5 || place == 7 ? -7 : 0;
                int car = (foot + place) % 8;
                int weight = stones.get(car);
                if (who(car) != NONE) {
                    weight += heavy.get(who(car));
                }
                sum += arm * weight;
            }
            return sum;
        }

        void next() {
            foot = foot == 7 ? 0 : foot + 1;
        }

        void back() {
            foot = foot == 0 ? 7 : foot - 1;
        }

        int letGo() {
            int turned = 0;
            if (pull() > drag) {
                while (pull() > drag) {
                    next();
                    turned++;
                }
            } else {
                while (pull() < -drag) {
                    back();
                    turned--;
                }
            }
            return turned;
        }

        boolean standsEverywhere() {
            return worst() <= drag;
        }

        int worst() {
            int most = 0;
            for (int f = 0; f < 8; f++) {
                Ring r = same();
                r.foot = f;
                most = Math.max(most, Math.abs(r.pull()));
            }
            return most;
        }
    }

    /** What a text came to: the ring behind it, or the event that can not be. */
    static final class Tale {
        Ring ring;
        int event = NONE;
        int why = NONE;
        int turned = 0;
    }

    private Ring ring = new Ring();
    private StringBuilder pad = new StringBuilder();
    private List<int[]> sights = new ArrayList<>();
    private final Ring[] rings = new Ring[2];
    private final List<List<int[]>> kept = new ArrayList<>(Collections.nCopies(2, null));

    private static boolean eight(int n) {
        return n >= 0 && n <= 7;
    }

    static Tale tale(Ring start, String text) {
        Tale t = new Tale();
        t.ring = start.same();
        for (int i = 0; i < text.length(); i++) {
            int why = event(t, text.charAt(i));
            if (why != 0) {
                t.event = i;
                t.why = why;
                return t;
            }
        }
        return t;
    }

    private static int event(Tale t, char sign) {
        Ring r = t.ring;
        int in = "ABCDEFGH".indexOf(sign);
        int out = "abcdefgh".indexOf(sign);
        int stones = "0123456789".indexOf(sign);
        if (in >= 0) {
            if (r.aboard(in)) {
                return 1;
            }
            if (r.who(r.foot) != NONE) {
                return 2;
            }
            r.carOf.put(in, r.foot);
        } else if (out >= 0) {
            if (r.who(r.foot) != out) {
                return 3;
            }
            r.carOf.remove(out);
        } else if (stones == 0) {
            r.stones.put(r.foot, 0);
        } else if (stones > 0) {
            if (r.stones.get(r.foot) + stones >= 100) {
                return 4;
            }
            r.stones.merge(r.foot, stones, Integer::sum);
        } else if (sign == '>') {
            r.next();
        } else if (sign == '<') {
            r.back();
        } else {
            t.turned += r.letGo();
        }
        return 0;
    }

    /** Whether all events of the text could still be with this sign more at its end. */
    boolean canBeWith(char sign) {
        return pad.indexOf("?") < 0 && fault() == NONE && tale(ring, pad.toString() + sign).event == NONE;
    }

    /** Who is in a car behind the text, which can be. */
    int whoIsBehind(int car) {
        return tale(ring, pad.toString()).ring.who(car);
    }

    int weigh(int person, int v) {
        if (!eight(person)) {
            return UNKNOWN;
        }
        return v < 1 || v > 99 ? OUTSIDE : ring.heavy.put(person, v);
    }

    int drag(int v) {
        if (v < 0 || v > 9999) {
            return OUTSIDE;
        }
        int was = ring.drag;
        ring.drag = v;
        return was;
    }

    int say(int sign) {
        if (sign < 33 || sign > 126) {
            return OUTSIDE;
        }
        if (pad.length() == 60) {
            return FULL;
        }
        return pad.append((char) sign).length();
    }

    int wipe() {
        int were = pad.length();
        pad = new StringBuilder();
        return were;
    }

    int fault() {
        String text = pad.toString();
        for (int i = 0; i < text.length(); i++) {
            if ("ABCDEFGHabcdefgh0123456789^<>?".indexOf(text.charAt(i)) < 0
                    || text.substring(0, i + 1).chars().filter(c -> c == '?').count() == 4) {
                return i;
            }
        }
        return NONE;
    }

    private int textRefused() {
        return fault() != NONE ? NO : pad.indexOf("?") >= 0 ? STATE : 0;
    }

    private int eveningRefused() {
        int refused = textRefused();
        return refused != 0 ? refused : tale(ring, pad.toString()).event != NONE ? NO : 0;
    }

    int judge(int what) {
        if (what != 0 && what != 1) {
            return OUTSIDE;
        }
        if (textRefused() != 0) {
            return textRefused();
        }
        Tale t = tale(ring, pad.toString());
        return what == 0 ? t.event : t.why;
    }

    int done() {
        if (eveningRefused() != 0) {
            return eveningRefused();
        }
        ring = tale(ring, pad.toString()).ring;
        return wipe();
    }

    int foot() {
        return ring.foot;
    }

    int car(int car, int what) {
        if (!eight(car)) {
            return UNKNOWN;
        }
        return what == 0 ? ring.who(car) : what == 1 ? ring.stones.get(car)
                : what == 2 ? (car + 8 - ring.foot) % 8 : OUTSIDE;
    }

    int pull() {
        return 1000000 + ring.pull();
    }

    int behind(int what) {
        if (what < 0 || what > 2) {
            return OUTSIDE;
        }
        if (eveningRefused() != 0) {
            return eveningRefused();
        }
        Tale t = tale(ring, pad.toString());
        return what == 0 ? t.ring.foot : what == 1 ? 1000000 + t.ring.pull() : 1000 + t.turned;
    }

    int leftOut(int i) {
        if (eveningRefused() != 0) {
            return eveningRefused();
        }
        String text = pad.toString();
        int foot = tale(ring, text).ring.foot;
        List<Integer> all = new ArrayList<>();
        for (int k = 0; k < text.length(); k++) {
            Tale t = tale(ring, text.substring(0, k) + text.substring(k + 1));
            if ("^<>".indexOf(text.charAt(k)) < 0 && t.event == NONE && t.ring.foot == foot) {
                all.add(k);
            }
        }
        return i == -1 ? all.size() : i >= 0 && i < all.size() ? all.get(i) : NONE;
    }

    int down(int person, int what) {
        if (!eight(person)) {
            return UNKNOWN;
        }
        if (what < 0 || what > 2) {
            return OUTSIDE;
        }
        if (!ring.aboard(person)) {
            return STATE;
        }
        if (ring.carOf.get(person) == ring.foot) {
            return what == 0 ? 0 : NONE;
        }
        for (int moves = 1; moves <= 3; moves++) {
            int[] best = null;
            for (int out = 0; out < 2; out++) {
                for (int in = 0; in <= 8; in++) {
                    Ring r = moved(ring, out, in);
                    if (r != null && reaches(r, person, moves - 1) && (best == null || in < best[1])) {
                        best = new int[] {out, in};
                    }
                }
            }
            if (best != null) {
                return what == 0 ? moves : what == 1 ? best[0] : best[1] == 8 ? NONE : best[1];
            }
        }
        return NONE;
    }

    /** The ring behind a move; null if the move can not be. 8 stands for nobody. */
    private static Ring moved(Ring start, int out, int in) {
        Ring r = start.same();
        int there = r.who(r.foot);
        if (out == 1 && there == NONE) {
            return null;
        }
        if (out == 1) {
            r.carOf.remove(there);
        }
        if (in < 8) {
            if (r.who(r.foot) != NONE || r.aboard(in)) {
                return null;
            }
            r.carOf.put(in, r.foot);
        }
        r.letGo();
        return r;
    }

    private static boolean reaches(Ring start, int person, int moves) {
        if (moves == 0) {
            return start.who(start.foot) == person;
        }
        for (int out = 0; out < 2; out++) {
            for (int in = 0; in <= 8; in++) {
                Ring r = moved(start, out, in);
                if (r != null && reaches(r, person, moves - 1)) {
                    return true;
                }
            }
        }
        return false;
    }

    int pebbles(int person) {
        if (!eight(person)) {
            return UNKNOWN;
        }
        if (!ring.aboard(person)) {
            return STATE;
        }
        for (int n = 0; n < 100; n++) {
            Ring r = ring.same();
            r.stones.put(r.foot, n);
            r.letGo();
            if (r.who(r.foot) == person) {
                return n;
            }
        }
        return NONE;
    }

    int brake() {
        int most = 0;
        for (int v = 0; v <= 9999; v++) {
            Ring r = ring.same();
            r.drag = v;
            if (v >= r.worst()) {
                most = v;
                break;
            }
        }
        return most;
    }

    int balance(int set, int person) {
        if (person < -1 || person > 7) {
            return UNKNOWN;
        }
        if (set < 0 || set > 255) {
            return OUTSIDE;
        }
        List<Integer> people = new ArrayList<>();
        for (int p = 0; p < 8; p++) {
            if ((set & 1 << p) != 0) {
                people.add(p);
            }
        }
        if (person >= 0 && !people.contains(person)) {
            return UNKNOWN;
        }
        if (people.size() > 5) {
            return FULL;
        }
        List<Ring> ways = new ArrayList<>();
        Ring empty = new Ring();
        empty.heavy.putAll(ring.heavy);
        empty.drag = ring.drag;
        seat(empty, people, 0, ways);
        if (person == -1) {
            return ways.size();
        }
        return ways.isEmpty() ? NONE : ways.get(0).carOf.get(person);
    }

    private static void seat(Ring r, List<Integer> people, int from, List<Ring> ways) {
        if (from == people.size()) {
            if (r.standsEverywhere()) {
                ways.add(r);
            }
            return;
        }
        for (int car = 0; car < 8; car++) {
            if (r.who(car) == NONE) {
                Ring more = r.same();
                more.carOf.put(people.get(from), car);
                seat(more, people, from + 1, ways);
            }
        }
    }

    int could(int person, int car, int what) {
        if (!eight(person) || !eight(car)) {
            return UNKNOWN;
        }
        if (what < 0 || what > 2) {
            return OUTSIDE;
        }
        if (textRefused() != 0) {
            return textRefused();
        }
        List<Integer> all = new ArrayList<>();
        for (int v = 1; v < 100; v++) {
            Ring r = ring.same();
            r.heavy.put(person, v);
            Tale t = tale(r, pad.toString());
            if (t.event == NONE && t.ring.foot == car) {
                all.add(v);
            }
        }
        if (what == 0) {
            return all.size();
        }
        return all.isEmpty() ? NONE : what == 1 ? Collections.min(all) : Collections.max(all);
    }

    int seen(int person, int car) {
        if (!eight(person) || !eight(car)) {
            return UNKNOWN;
        }
        if (sights.size() == 6) {
            return FULL;
        }
        sights.add(new int[] {person, car});
        return sights.size();
    }

    int forget() {
        int were = sights.size();
        sights = new ArrayList<>();
        return were;
    }

    int filled(int i) {
        if (fault() != NONE) {
            return NO;
        }
        List<String> texts = new ArrayList<>();
        texts.add(pad.toString());
        List<String> letters = new ArrayList<>();
        letters.add("");
        while (texts.get(0).indexOf('?') >= 0) {
            List<String> more = new ArrayList<>();
            List<String> moreLetters = new ArrayList<>();
            for (int k = 0; k < texts.size(); k++) {
                for (char c = 'A'; c <= 'H'; c++) {
                    int at = texts.get(k).indexOf('?');
                    more.add(texts.get(k).substring(0, at) + c + texts.get(k).substring(at + 1));
                    moreLetters.add(letters.get(k) + c);
                }
            }
            texts = more;
            letters = moreLetters;
        }
        List<String> ways = new ArrayList<>();
        for (int k = 0; k < texts.size(); k++) {
            Tale t = tale(ring, texts.get(k));
            boolean all = t.event == NONE;
            for (int[] sight : sights) {
                all = all && t.ring.who(sight[1]) == sight[0];
            }
            if (all) {
                ways.add(letters.get(k));
            }
        }
        Collections.sort(ways);
        if (i == -1) {
            return ways.size();
        }
        return ways.isEmpty() || i < 0 || i >= ways.get(0).length() ? NONE : ways.get(0).charAt(i) - 'A';
    }

    long chance(int person, int m, int part) {
        if (!eight(person)) {
            return LOST + UNKNOWN;
        }
        if (m < 0 || m > 3 || part < 0 || part > 1) {
            return LOST + OUTSIDE;
        }
        BigInteger[] f = likely(ring, person, m);
        return f[part].divide(f[0].gcd(f[1])).longValueExact();
    }

    private static BigInteger[] likely(Ring r, int person, int m) {
        if (m == 0) {
            return new BigInteger[] {r.who(r.foot) == person ? BigInteger.ONE : BigInteger.ZERO, BigInteger.ONE};
        }
        List<Ring> cases = new ArrayList<>();
        for (int p = 0; p < 8 && r.who(r.foot) == NONE; p++) {
            if (!r.aboard(p)) {
                Ring with = r.same();
                with.carOf.put(p, with.foot);
                cases.add(with);
            }
        }
        if (cases.isEmpty()) {
            cases.add(r.same());
        }
        BigInteger upper = BigInteger.ZERO;
        BigInteger lower = BigInteger.ONE;
        for (Ring c : cases) {
            c.letGo();
            BigInteger[] f = likely(c, person, m - 1);
            upper = upper.multiply(f[1]).add(f[0].multiply(lower));
            lower = lower.multiply(f[1]);
        }
        return new BigInteger[] {upper, lower.multiply(BigInteger.valueOf(cases.size()))};
    }

    int year(int seed, int m, int car) {
        if (car < -1 || car > 7) {
            return UNKNOWN;
        }
        if (seed < 0 || seed > 9999 || m < 1 || m > 99) {
            return OUTSIDE;
        }
        Ring r = ring.same();
        List<Integer> behind = new ArrayList<>();
        int turned = 0;
        long x = seed;
        for (int turn = 0; turn < m; turn++) {
            x = (75 * x + 74) % 65537;
            if (r.who(r.foot) != NONE && (x & 1) == 1) {
                r.carOf.remove(r.who(r.foot));
            }
            int p = (int) (x >> 1 & 7);
            if (r.who(r.foot) == NONE && !r.aboard(p)) {
                r.carOf.put(p, r.foot);
            }
            if ((x >> 4) % 3 == 0) {
                r.next();
            }
            turned += Math.abs(r.letGo());
            behind.add(r.foot);
        }
        return car == -1 ? turned : Collections.frequency(behind, car);
    }

    int image(int n) {
        if (n != 0 && n != 1) {
            return OUTSIDE;
        }
        rings[n] = ring.same();
        kept.set(n, new ArrayList<>(sights));
        return 1;
    }

    int restore(int n) {
        if (n != 0 && n != 1) {
            return OUTSIDE;
        }
        if (rings[n] == null) {
            return STATE;
        }
        ring = rings[n].same();
        sights = new ArrayList<>(kept.get(n));
        return 1;
    }

    int told(int what) {
        if (what == 0) {
            return pad.length();
        }
        if (what == 1) {
            return ring.drag;
        }
        if (what == 2) {
            return sights.size();
        }
        if (what == 3) {
            int bits = 0;
            for (int car : ring.carOf.values()) {
                bits += 1 << car;
            }
            return bits;
        }
        if (eight(what - 10)) {
            return ring.heavy.get(what - 10);
        }
        if (eight(what - 20)) {
            return ring.aboard(what - 20) ? ring.carOf.get(what - 20) : NONE;
        }
        return OUTSIDE;
    }
}
