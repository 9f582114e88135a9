import java.util.ArrayList;
import java.util.Arrays;
import java.util.LinkedHashSet;
import java.util.List;

// Long runs of calls by lot, each answered by the class and by a second, plainer telling of ../shared/DOC.md.
public final class RoofWarModel extends Due {
    // ---- the model: kinds as classes under one another

    private static class Roof {
        int kind;
        int size;
        int leak;
        int house;

        Roof(int kind, int size, int leak, int house) {
            this.kind = kind;
            this.size = size;
            this.leak = leak;
            this.house = house;
        }

        int weighs() {
            return 2 * size;
        }

        int covers() {
            return size;
        }

        int drips() {
            return leak / 10;
        }

        int worth() {
            return size;
        }

        static Roof of(int kind, int size, int leak, int house) {
            switch (kind) {
                case 1: return new Thatch(kind, size, leak, house);
                case 2: return new Dome(kind, size, leak, house);
                case 3: return new Hay(kind, size, leak, house);
                case 4: return new Cupola(kind, size, leak, house);
                case 5: return new Painted(kind, size, leak, house);
                default: return new Roof(kind, size, leak, house);
            }
        }

        boolean is(int k) {
            return of(k, 1, 1, 1).getClass().isInstance(this);
        }

        Roof same() {
            return of(kind, size, leak, house);
        }
    }

    private static class Thatch extends Roof {
        Thatch(int kind, int size, int leak, int house) {
            super(kind, size, leak, house);
        }

        @Override int weighs() {
            return super.weighs() / 2;
        }

        @Override int drips() {
            return super.drips() + 2;
        }

        @Override int worth() {
            return super.worth() + 4;
        }
    }

    private static class Hay extends Thatch {
        Hay(int kind, int size, int leak, int house) {
            super(kind, size, leak, house);
        }

        @Override int covers() {
            return super.covers() / 2;
        }

        @Override int drips() {
            return 2 * super.drips();
        }

        @Override int worth() {
            return 2 * super.worth();
        }
    }

    private static class Dome extends Roof {
        Dome(int kind, int size, int leak, int house) {
            super(kind, size, leak, house);
        }

        @Override int weighs() {
            return 2 * super.weighs();
        }

        @Override int covers() {
            return super.covers() + 3;
        }

        @Override int worth() {
            return 30 - size;
        }
    }

    private static class Cupola extends Dome {
        Cupola(int kind, int size, int leak, int house) {
            super(kind, size, leak, house);
        }

        @Override int weighs() {
            return super.weighs() - 2;
        }

        @Override int drips() {
            return 1;
        }

        @Override int worth() {
            return super.worth() - 6;
        }
    }

    private static class Painted extends Roof {
        Painted(int kind, int size, int leak, int house) {
            super(kind, size, leak, house);
        }

        @Override int weighs() {
            return 1;
        }

        @Override int covers() {
            return 0;
        }

        @Override int worth() {
            return 2;
        }
    }

    // ---- the model: texts by a row of words and a stack of what is open

    private static final class Word {
        final String letters;
        final int place;
        final boolean fits;

        Word(String letters, int place, boolean fits) {
            this.letters = letters;
            this.place = place;
            this.fits = fits;
        }
    }

    private static List<Word> words(int[] tape) {
        List<Word> words = new ArrayList<>();
        StringBuilder b = new StringBuilder();
        for (int v : tape) {
            b.append((char) v);
        }
        java.util.regex.Matcher m = java.util.regex.Pattern.compile("[a-z]+|[0-9]+|[^ ]", java.util.regex.Pattern.DOTALL).matcher(b);
        int lastWordEnd = -1;
        while (m.find()) {
            boolean word = m.group().matches("[a-z]+|[0-9]+");
            boolean fits = !(word && m.start() == lastWordEnd) && !m.group().matches("[0-9]{5,}");
            words.add(new Word(m.group(), m.start(), fits));
            lastWordEnd = word ? m.end() : -1;
        }
        return words;
    }

    private static final class Text {
        int key;
        int leaves;
        final List<String> turned = new ArrayList<>();
    }

    private static final List<String> KEYS = List.of("spite", "fee", "fine");
    private static final List<String> NAMES = List.of("lsn", "tw", "sl");

    private static int tightness(String sign) {
        switch (sign) {
            case "|": return 1;
            case "&": return 2;
            case "<": case "=": case ">": return 3;
            case "+": case "-": return 4;
            case "*": case "/": return 5;
            case "!": return 6;
            default: return 0;
        }
    }

    private static void release(List<String> waits, Text text, int least) {
        while (!waits.isEmpty() && tightness(waits.get(waits.size() - 1)) >= least) {
            text.turned.add(waits.remove(waits.size() - 1));
        }
    }

    /** Fills the text; answers the place of the fault, or -1. */
    private static int read(int[] tape, Text text) {
        List<Word> words = words(tape);
        if (words.isEmpty()) {
            return tape.length;
        }
        text.key = KEYS.indexOf(words.get(0).letters);
        if (text.key < 0) {
            return words.get(0).place;
        }
        List<String> waits = new ArrayList<>();
        boolean wantsPiece = true;
        int open = 0;
        for (Word w : words.subList(1, words.size())) {
            if (!w.fits) {
                return w.place;
            }
            String s = w.letters;
            if (wantsPiece) {
                if (s.equals("!") || s.equals("(")) {
                    if (waits.stream().filter(s::equals).count() == 8) {
                        return w.place;
                    }
                    waits.add(s);
                    open += s.equals("(") ? 1 : 0;
                } else if (s.matches("[0-9]+") || s.length() == 1 && NAMES.get(text.key).contains(s)) {
                    text.turned.add(s);
                    text.leaves++;
                    wantsPiece = false;
                    release(waits, text, 6);
                } else {
                    return w.place;
                }
            } else if (s.equals(")") && open > 0) {
                release(waits, text, 1);
                waits.remove(waits.size() - 1);
                release(waits, text, 6);
                open--;
            } else if (tightness(s) >= 1 && tightness(s) <= 5) {
                release(waits, text, tightness(s) == 3 ? 4 : tightness(s));
                if (tightness(s) == 3 && !waits.isEmpty() && tightness(waits.get(waits.size() - 1)) == 3) {
                    return w.place;
                }
                waits.add(s);
                wantsPiece = true;
            } else {
                return w.place;
            }
        }
        if (wantsPiece || open > 0) {
            return tape.length;
        }
        release(waits, text, 1);
        return -1;
    }

    private static int gives(Text text, int[] values) {
        ArrayList<Integer> stack = new ArrayList<>();
        for (String s : text.turned) {
            if (s.matches("[0-9]+")) {
                stack.add(Integer.parseInt(s));
            } else if (s.matches("[a-z]")) {
                stack.add(values[NAMES.get(text.key).indexOf(s)]);
            } else {
                int b = stack.remove(stack.size() - 1);
                if (s.equals("!")) {
                    stack.add(b == 0 ? 1 : 0);
                } else {
                    stack.add(joined(s, stack.remove(stack.size() - 1), b));
                }
            }
        }
        return stack.get(0);
    }

    private static int joined(String s, int a, int b) {
        long wide = 0;
        switch (s) {
            case "|": return a == 0 && b == 0 ? 0 : 1;
            case "&": return a == 0 || b == 0 ? 0 : 1;
            case "<": return a < b ? 1 : 0;
            case "=": return a == b ? 1 : 0;
            case ">": return a > b ? 1 : 0;
            case "+": wide = (long) a + b; break;
            case "-": wide = (long) a - b; break;
            case "*": wide = (long) a * b; break;
            default: wide = b == 0 ? 0 : (long) a / b;
        }
        return (int) wide;
    }

    // ---- the model: the hill

    private static final class State {
        final List<Roof> roofs = new ArrayList<>();
        final int[][] houses = new int[12][];
        final int[] rules = {12, 12, 40};
        final int[] sums = new int[3];
        int night = 0;
        int z = 1;
        List<Text> texts = new ArrayList<>();

        State() {
            for (int h = 0; h < 12; h++) {
                houses[h] = new int[] {3, 0};
            }
        }

        State same() {
            State s = new State();
            for (Roof r : roofs) {
                s.roofs.add(r.same());
            }
            for (int h = 0; h < 12; h++) {
                s.houses[h] = houses[h].clone();
            }
            System.arraycopy(rules, 0, s.rules, 0, 3);
            System.arraycopy(sums, 0, s.sums, 0, 3);
            s.night = night;
            s.z = z;
            s.texts = new ArrayList<>(texts);
            return s;
        }

        Roof over(int house) {
            for (Roof r : roofs) {
                if (r.house == house) {
                    return r;
                }
            }
            return null;
        }

        int dryIn(int house) {
            Roof r = over(house);
            return r == null ? 0 : Math.min(r.covers(), houses[house][0]);
        }

        int dry(int town) {
            int sum = 0;
            for (int h = 0; h < 12; h++) {
                sum += h / 6 == town ? dryIn(h) : 0;
            }
            return sum;
        }

        int home(int town) {
            for (int h = 0; h < 12; h++) {
                if (h / 6 == town && over(h) == null) {
                    return h;
                }
            }
            return NONE;
        }

        List<Roof> loot(int town) {
            List<Roof> some = new ArrayList<>();
            for (Roof r : roofs) {
                if (r.house / 6 != town && r.weighs() <= rules[town]) {
                    some.add(r);
                }
            }
            return some;
        }

        int leaks() {
            return roofs.stream().mapToInt(r -> r.leak).sum();
        }

        int draw() {
            z = z * 1103515245 + 12345;
            return z >>> 8;
        }

        Text counts(int key) {
            Text last = null;
            for (Text t : texts) {
                last = t.key == key ? t : last;
            }
            return last;
        }

        void carried(Roof r) {
            Text law = counts(0);
            int spite = law == null ? 5 : gives(law, new int[] {r.leak, r.size, night});
            r.house = home(1 - r.house / 6);
            r.leak = Math.min(99, r.leak + Math.min(99, Math.max(0, spite)));
            sums[0]++;
        }

        void oneNight() {
            for (int turn = 0; turn < 2; turn++) {
                int town = (night + turn) % 2;
                List<Roof> some = loot(town);
                if (!some.isEmpty() && home(town) != NONE) {
                    Roof r = some.get(draw() % some.size());
                    if (draw() % 100 < houses[r.house][1]) {
                        sums[1]++;
                    } else {
                        carried(r);
                    }
                }
            }
            if (draw() % 100 < rules[2]) {
                for (Roof r : roofs) {
                    sums[2] += r.drips();
                }
                for (int h = 0; h < 12; h++) {
                    sums[2] += houses[h][0] > 0 && over(h) == null ? 20 : 0;
                }
            }
            night++;
        }

        State behind(int n) {
            State s = same();
            for (int i = 0; i < n; i++) {
                s.oneNight();
            }
            return s;
        }

        void turn(int roof, int kind) {
            Roof r = roofs.get(roof);
            roofs.set(roof, Roof.of(kind, r.size, r.leak, r.house));
        }
    }

    private static final class Row {
        boolean floats;
        Integer[] places;

        Row(boolean floats, int n) {
            this.floats = floats;
            places = new Integer[n];
            Arrays.fill(places, 0);
        }

        Row same() {
            Row r = new Row(floats, 0);
            r.places = places.clone();
            return r;
        }
    }

    // ---- the model: the calls

    private State now = new State();
    private State image = null;
    private final Row[] sheets = new Row[4];
    private final Object[] slots = new Object[5];
    private int[] tape = new int[0];
    private final List<Integer> waiting = new ArrayList<>();
    private int[] bestFit;
    private int bestDry;

    private static boolean in(int v, int least, int most) {
        return v >= least && v <= most;
    }

    private boolean noRoof(int r) {
        return !in(r, 0, now.roofs.size() - 1);
    }

    private int answer(String call, int a, int b, int c, int d, int e) {
        switch (call) {
            case "roof": case "told": case "as": case "turns": case "set": case "moves": case "house": case "lodges":
            case "rule": case "deal": case "seed":
                return answerOfRoofs(call, a, b, c, d);
            case "nights": case "hill": case "loot": case "steals": case "fits": case "prize":
                return answerOfNights(call, a, b);
            case "behind": case "gone": case "guard": case "becomes": case "like": case "fee": case "fine":
                return answerOfThoughts(call, a, b, c);
            case "feed": case "trim": case "text": case "textTold": case "why":
                return answerOfTexts(call, a, b, c);
            case "sheet": case "mark": case "pour": case "reads": case "copy":
                return answerOfSheets(call, a, b, c, d, e);
            case "lay": case "ask": case "item": case "rest":
                return answerOfSlots(call, a, b, c);
            default:
                return answerOfImages(call, a);
        }
    }

    private int answerOfRoofs(String call, int a, int b, int c, int d) {
        Roof r = noRoof(a) ? null : now.roofs.get(a);
        switch (call) {
            case "roof":
                if (!in(a, 0, 5) || !in(b, 1, 9) || !in(c, 0, 99) || !in(d, 0, 11)) {
                    return BAD;
                }
                if (now.over(d) != null) {
                    return NO;
                }
                now.roofs.add(Roof.of(a, b, c, d));
                return now.roofs.size() - 1;
            case "told":
                return r == null || !in(b, 0, 7) ? BAD
                    : new int[] {r.kind, r.size, r.leak, r.house, r.weighs(), r.covers(), r.drips(), r.worth()}[b];
            case "as":
                return r == null || !in(b, 0, 5) ? BAD : r.is(b) ? r.house : KIND;
            case "turns":
                if (r == null || !in(b, 0, 5)) {
                    return BAD;
                }
                now.turn(a, b);
                return r.kind;
            case "set":
                if (r == null || !in(b, 1, 2) || !in(c, b == 1 ? 1 : 0, b == 1 ? 9 : 99)) {
                    return BAD;
                }
                int old = b == 1 ? r.size : r.leak;
                r.size = b == 1 ? c : r.size;
                r.leak = b == 2 ? c : r.leak;
                return old;
            case "moves":
                if (r == null || !in(b, 0, 11)) {
                    return BAD;
                }
                if (now.over(b) != null) {
                    return NO;
                }
                int left = r.house;
                r.house = b;
                return left;
            case "house":
                if (!in(a, 0, 11) || !in(b, 0, 3)) {
                    return BAD;
                }
                return b < 2 ? now.houses[a][b] : b == 3 ? now.dryIn(a) : now.over(a) == null ? NONE : now.roofs.indexOf(now.over(a));
            case "lodges":
                if (!in(a, 0, 11) || !in(b, 0, 1) || !in(c, 0, b == 0 ? 9 : 100)) {
                    return BAD;
                }
                int had = now.houses[a][b];
                now.houses[a][b] = c;
                return had;
            case "rule":
                if (!in(a, 0, 2) || !in(b, 0, a == 2 ? 100 : 99)) {
                    return BAD;
                }
                int ruled = now.rules[a];
                now.rules[a] = b;
                return ruled;
            case "deal":
                if (!in(a, 1, 12)) {
                    return BAD;
                }
                int came = 0;
                while (came < a && now.roofs.size() < 12) {
                    int kind = now.draw() % 6;
                    int size = 1 + now.draw() % 9;
                    int leak = now.draw() % 50;
                    int house = now.draw() % 12;
                    while (now.over(house) != null) {
                        house = house == 11 ? 0 : house + 1;
                    }
                    now.roofs.add(Roof.of(kind, size, leak, house));
                    came++;
                }
                return came;
            default:
                int z = now.z;
                now.z = a;
                return z;
        }
    }

    private int answerOfNights(String call, int a, int b) {
        switch (call) {
            case "nights":
                if (!in(a, 1, 100)) {
                    return BAD;
                }
                int before = now.sums[0];
                for (int i = 0; i < a && now.night < 9999; i++) {
                    now.oneNight();
                }
                return now.sums[0] - before;
            case "hill":
                return !in(a, 0, 5) ? BAD : a < 3 ? now.sums[a] : a == 5 ? now.leaks() : now.dry(a - 3);
            case "loot":
                if (!in(a, 0, 1) || !in(b, 0, 1)) {
                    return BAD;
                }
                return b == 1 ? now.home(a) : now.loot(a).stream().mapToInt(r -> 1 << now.roofs.indexOf(r)).sum();
            case "steals":
                if (noRoof(a)) {
                    return BAD;
                }
                Roof r = now.roofs.get(a);
                int thief = 1 - r.house / 6;
                if (now.home(thief) == NONE || !now.loot(thief).contains(r)) {
                    return NO;
                }
                now.carried(r);
                return r.house;
            case "fits":
                if (!in(a, 0, 1) || !in(b, -1, 5)) {
                    return BAD;
                }
                bestDry = -1;
                fit(a, 0, new int[6]);
                return b == -1 ? bestDry : bestFit[b] == 99 ? NONE : bestFit[b];
            default:
                if (!in(a, 0, 1) || !in(b, 0, 1)) {
                    return BAD;
                }
                int best = NONE;
                int most = Integer.MIN_VALUE;
                for (Roof p : now.loot(a)) {
                    State s = now.same();
                    s.roofs.get(now.roofs.indexOf(p)).house = now.home(a);
                    int more = s.dry(a) - s.dry(1 - a);
                    if (now.home(a) != NONE && more > most) {
                        most = more;
                        best = now.roofs.indexOf(p);
                    }
                }
                return best == NONE || b == 0 ? best : most;
        }
    }

    /** All ways, one behind the other, those with the lesser roofs over the first houses first. */
    private void fit(int town, int house, int[] way) {
        if (house == 6) {
            int dry = 0;
            for (int h = 0; h < 6; h++) {
                dry += way[h] == 99 ? 0 : Math.min(now.roofs.get(way[h]).covers(), now.houses[town * 6 + h][0]);
            }
            if (dry > bestDry) {
                bestDry = dry;
                bestFit = way.clone();
            }
            return;
        }
        for (int r = 0; r < now.roofs.size(); r++) {
            boolean used = false;
            for (int h = 0; h < house; h++) {
                used |= way[h] == r;
            }
            if (!used && now.roofs.get(r).house / 6 == town) {
                way[house] = r;
                fit(town, house + 1, way);
            }
        }
        way[house] = 99;
        fit(town, house + 1, way);
    }

    private int answerOfThoughts(String call, int a, int b, int c) {
        int best = -1;
        int most = -1;
        switch (call) {
            case "behind":
                if (!in(a, 0, 100) || !in(b, 0, 4 + now.roofs.size())) {
                    return BAD;
                }
                State then = now.behind(a);
                return b < 3 ? then.sums[b] : b < 5 ? then.dry(b - 3) : then.roofs.get(b - 5).house;
            case "gone":
                if (noRoof(a)) {
                    return BAD;
                }
                State on = now.same();
                for (int n = 1; n <= 200; n++) {
                    on.oneNight();
                    if (on.roofs.get(a).house / 6 != now.roofs.get(a).house / 6) {
                        return n;
                    }
                }
                return NONE;
            case "guard":
                if (!in(a, 0, 1) || !in(b, 1, 60) || !in(c, 0, 1)) {
                    return BAD;
                }
                for (int h = 6 * a; h < 6 * a + 6; h++) {
                    State s = now.same();
                    s.houses[h][1] = 100;
                    int dry = s.behind(b).dry(a);
                    best = dry > most ? h : best;
                    most = Math.max(most, dry);
                }
                return c == 0 ? best : most;
            case "becomes":
                if (noRoof(a) || !in(b, 1, 60) || !in(c, 0, 1)) {
                    return BAD;
                }
                for (int k = 0; k < 6; k++) {
                    State s = now.same();
                    s.turn(a, k);
                    int dry = s.behind(b).dry(now.roofs.get(a).house / 6);
                    best = dry > most ? k : best;
                    most = Math.max(most, dry);
                }
                return c == 0 ? best : most;
            case "like":
                if (!in(a, 0, 3) || !in(b, 0, 1)) {
                    return BAD;
                }
                if (sheets[a] == null) {
                    return NOTHING;
                }
                if (now.roofs.isEmpty()) {
                    return NONE;
                }
                for (int r = 0; r < now.roofs.size(); r++) {
                    int same = 0;
                    State s = now.same();
                    for (Integer p : sheets[a].places) {
                        same += p != null && p == s.roofs.get(r).house ? 1 : 0;
                        s.oneNight();
                    }
                    best = same > most ? r : best;
                    most = Math.max(most, same);
                }
                return b == 0 ? best : most;
            case "fee":
                Text fee = now.counts(1);
                return fee == null ? now.sums[0] : gives(fee, new int[] {now.sums[0], now.sums[2]});
            default:
                if (noRoof(a)) {
                    return BAD;
                }
                Text fine = now.counts(2);
                Roof r = now.roofs.get(a);
                return fine == null ? r.leak : gives(fine, new int[] {r.size, r.leak});
        }
    }

    private int answerOfTexts(String call, int a, int b, int c) {
        switch (call) {
            case "feed":
                if (tape.length > 84) {
                    return FULL;
                }
                int old = tape.length;
                tape = Arrays.copyOf(tape, old + 12);
                int[] three = {a, b, c};
                for (int i = 0; i < 12; i++) {
                    tape[old + i] = three[i / 4] >> 8 * (3 - i % 4) & 255;
                }
                return tape.length;
            case "trim":
                if (!in(a, 0, tape.length)) {
                    return BAD;
                }
                tape = Arrays.copyOf(tape, a);
                return a;
            case "text":
                Text t = new Text();
                int fault = read(tape, t);
                tape = new int[0];
                if (fault >= 0) {
                    return -100 - fault;
                }
                if (now.texts.size() == 14) {
                    return FULL;
                }
                now.texts.add(t);
                return now.texts.size() - 1;
            case "textTold":
                if (!in(a, 0, now.texts.size() - 1) || !in(b, 0, 1)) {
                    return BAD;
                }
                return b == 0 ? now.texts.get(a).key : now.texts.get(a).leaves;
            default:
                return !in(a, 0, 2) ? BAD : now.counts(a) == null ? NONE : now.texts.indexOf(now.counts(a));
        }
    }

    private int answerOfSheets(String call, int a, int b, int c, int d, int e) {
        if (!in(a, 0, 3)) {
            return BAD;
        }
        if (call.equals("sheet")) {
            if (!in(b, -1, 1) || b >= 0 && c > 24) {
                return BAD;
            }
            if (b >= 0 && c < 0) {
                return SIZE;
            }
            sheets[a] = b < 0 ? null : new Row(b == 1, c);
            return b < 0 ? 0 : c;
        }
        if (call.equals("copy")) {
            return copied(a, b, c, d, e);
        }
        Row s = sheets[a];
        if (s == null) {
            return NOTHING;
        }
        int done = 0;
        switch (call) {
            case "mark":
                if (!in(b, 0, s.places.length - 1)) {
                    return INDEX;
                }
                if (!s.floats && c == NONE) {
                    return KIND;
                }
                if (s.floats && c != NONE && !in(c, -99999, 99999)) {
                    return BAD;
                }
                s.places[b] = s.floats ? (c == NONE ? null : (Integer) c) : (Integer) (int) (short) c;
                return 1;
            case "pour":
                for (int r = 0; r < Math.min(now.roofs.size(), s.places.length); r++) {
                    if (s.places[r] != null) {
                        int leak = Math.min(99, Math.max(0, s.places[r]));
                        done += now.roofs.get(r).leak == leak ? 0 : 1;
                        now.roofs.get(r).leak = leak;
                    }
                }
                return done;
            default:
                for (int k = 0; k < s.places.length; k++) {
                    if (s.places[k] != null && (noRoof(k) || now.roofs.get(k).house != s.places[k])) {
                        return k;
                    }
                }
                return NONE;
        }
    }

    private int copied(int from, int place, int to, int at, int many) {
        if (!in(to, 0, 3)) {
            return BAD;
        }
        Row f = sheets[from];
        Row t = sheets[to];
        if (f == null || t == null) {
            return NOTHING;
        }
        if (f.floats != t.floats) {
            return KIND;
        }
        if (place < 0 || at < 0 || many < 0 || (long) place + many > f.places.length || (long) at + many > t.places.length) {
            return INDEX;
        }
        Integer[] was = f.places.clone();
        for (int i = 0; i < many; i++) {
            t.places[at + i] = was[place + i];
        }
        return many;
    }

    private static int thing(Object held) {
        return held == null ? 0 : held instanceof Roof ? 1 : held instanceof Row ? 2 : 3;
    }

    private int answerOfSlots(String call, int a, int b, int c) {
        if (!in(a, 0, 4)) {
            return BAD;
        }
        Object held = slots[a];
        if (call.equals("lay")) {
            if (!in(b, 0, 3) || b == 1 && noRoof(c) || b == 2 && !in(c, 0, 3)) {
                return BAD;
            }
            if (b == 2 && sheets[c] == null) {
                return NOTHING;
            }
            slots[a] = b == 0 ? null : b == 1 ? now.roofs.get(c).same() : b == 2 ? sheets[c].same() : (Object) c;
            return thing(held);
        }
        if (call.equals("ask") && !in(b, 0, 5)) {
            return BAD;
        }
        if (held == null) {
            return NOTHING;
        }
        switch (call) {
            case "ask":
                return thing(held) != 1 || !((Roof) held).is(b) ? KIND : ((Roof) held).worth();
            case "item":
                if (thing(held) != 2) {
                    return KIND;
                }
                Row r = (Row) held;
                return !in(b, 0, r.places.length - 1) ? INDEX : r.places[b] == null ? KIND : r.places[b];
            default:
                return thing(held) != 3 ? KIND : b == 0 ? NO : (int) ((long) (Integer) held % b);
        }
    }

    private int answerOfImages(String call, int a) {
        switch (call) {
            case "tell":
                if (waiting.size() == 60) {
                    return FULL;
                }
                waiting.add(a);
                return waiting.size();
            case "check":
                List<Integer> told = new ArrayList<>(waiting);
                waiting.clear();
                if (!in(a, 1, 30)) {
                    return BAD;
                }
                if (image == null) {
                    return NO;
                }
                List<Integer> due = nightsTold(image, a);
                for (int i = 0; i < Math.max(told.size(), due.size()); i++) {
                    if (i >= told.size() || i >= due.size() || !told.get(i).equals(due.get(i))) {
                        return i + 1;
                    }
                }
                return 0;
            case "keep":
                image = now.same();
                return image.roofs.size();
            case "back":
                if (image == null) {
                    return NO;
                }
                now = image.same();
                return now.roofs.size();
            default:
                return !in(a, 0, 8) ? BAD : new int[] {now.roofs.size(), now.night, now.rules[0], now.rules[1],
                    now.rules[2], now.texts.size(), waiting.size(), tape.length, now.z}[a];
        }
    }

    private static List<Integer> nightsTold(State from, int n) {
        List<Integer> told = new ArrayList<>();
        State s = from.same();
        for (int i = 0; i < n && s.night < 9999; i++) {
            s.oneNight();
            told.add(s.sums[0]);
            told.add(s.leaks());
        }
        return told;
    }

    // ---- runs by lot

    private static final String[] CALLS = {
        "roof", "told", "as", "turns", "set", "moves", "house", "lodges", "rule", "deal", "seed", "nights", "hill", "loot",
        "steals", "fits", "prize", "behind", "gone", "guard", "becomes", "like", "fee", "fine", "feed", "trim", "text",
        "textTold", "why", "sheet", "mark", "pour", "reads", "copy", "lay", "ask", "item", "rest", "tell", "check", "keep",
        "back", "count"};
    private static final int[] RARE = {
        Integer.MIN_VALUE, Integer.MAX_VALUE, NONE, BAD, -2, 99999, -99999, 100000, -100000, 65536, 32768, 9999, 10000};

    private long lot;

    private int lot(int n) {
        lot = lot * 6364136223846793005L + 1442695040888963407L;
        return (int) ((lot >>> 33) % n);
    }

    private int about(int least, int most) {
        int way = lot(40);
        if (way == 0) {
            return RARE[lot(RARE.length)];
        }
        if (way == 1) {
            return least - 1;
        }
        return way == 2 ? most + 1 : least + lot(most - least + 1);
    }

    private int[] argumentsFor(String call) {
        int roofs = Math.max(0, now.roofs.size() - 1);
        int what;
        switch (call) {
            case "roof": return new int[] {about(0, 5), about(1, 9), about(0, 99), about(0, 11), 0};
            case "told": return new int[] {about(0, roofs), about(0, 7), 0, 0, 0};
            case "as": case "turns": return new int[] {about(0, roofs), about(0, 5), 0, 0, 0};
            case "set":
                what = about(1, 2);
                return new int[] {about(0, roofs), what, what == 1 ? about(1, 9) : about(0, 99), 0, 0};
            case "moves": return new int[] {about(0, roofs), about(0, 11), 0, 0, 0};
            case "house": return new int[] {about(0, 11), about(0, 3), 0, 0, 0};
            case "lodges":
                what = about(0, 1);
                return new int[] {about(0, 11), what, what == 0 ? about(0, 9) : about(0, 100), 0, 0};
            case "rule": return new int[] {about(0, 2), about(0, lot(2) == 0 ? 30 : 99), 0, 0, 0};
            case "deal": return new int[] {about(1, lot(3) == 0 ? 12 : 3), 0, 0, 0, 0};
            case "seed": return new int[] {about(0, 1000) * (1 + lot(1 << 20)), 0, 0, 0, 0};
            case "nights": return new int[] {about(1, lot(3) == 0 ? 100 : 4), 0, 0, 0, 0};
            case "hill": return new int[] {about(0, 5), 0, 0, 0, 0};
            case "loot": case "prize": return new int[] {about(0, 1), about(0, 1), 0, 0, 0};
            case "steals": case "gone": case "fine": return new int[] {about(0, roofs), 0, 0, 0, 0};
            case "fits": return new int[] {about(0, 1), about(-1, 5), 0, 0, 0};
            case "behind": return new int[] {about(0, 100), about(0, 4 + now.roofs.size()), 0, 0, 0};
            case "guard": return new int[] {about(0, 1), about(1, lot(2) == 0 ? 8 : 60), about(0, 1), 0, 0};
            case "becomes": return new int[] {about(0, roofs), about(1, lot(2) == 0 ? 8 : 60), about(0, 1), 0, 0};
            case "like": return new int[] {about(0, 3), about(0, 1), 0, 0, 0};
            case "feed": return new int[] {lot(1 << 30), lot(1 << 30) * 4, lot(1 << 30) * 2, 0, 0};
            case "trim": return new int[] {about(0, Math.max(0, tape.length)), 0, 0, 0, 0};
            case "textTold": return new int[] {about(0, Math.max(0, now.texts.size() - 1)), about(0, 1), 0, 0, 0};
            case "why": return new int[] {about(0, 2), 0, 0, 0, 0};
            case "sheet": return new int[] {about(0, 3), about(-1, 1), about(0, 24), 0, 0};
            case "mark": return new int[] {about(0, 3), about(0, 13), lot(3) == 0 ? RARE[lot(RARE.length)] : about(0, 11), 0, 0};
            case "pour": case "reads": return new int[] {about(0, 3), 0, 0, 0, 0};
            case "copy": return new int[] {about(0, 3), about(0, 12), about(0, 3), about(0, 12), about(0, 9)};
            case "lay": return new int[] {about(0, 4), about(0, 3), about(0, lot(2) == 0 ? roofs : 3), 0, 0};
            case "ask": return new int[] {about(0, 4), about(0, 5), 0, 0, 0};
            case "item": return new int[] {about(0, 4), about(0, 9), 0, 0, 0};
            case "rest": return new int[] {about(0, 4), about(-3, 7), 0, 0, 0};
            case "check": return new int[] {about(1, 30), 0, 0, 0, 0};
            default: return new int[] {about(0, 8), 0, 0, 0, 0};
        }
    }

    private final RoofWar real = new RoofWar();
    private final LinkedHashSet<String> wrong = new LinkedHashSet<>();
    private int calls = 0;

    private int call(String call, int... given) {
        if (calls >= 512) {
            return 0;
        }
        int[] v = Arrays.copyOf(given, 5);
        int got = answerOf(real, call, v);
        int want = answer(call, v[0], v[1], v[2], v[3], v[4]);
        calls++;
        if (got != want) {
            wrong.add("call " + calls + " " + call + Arrays.toString(v) + " answered " + got + ", due is " + want);
        }
        return want;
    }

    private String expression(int deep, String names) {
        int way = lot(deep > 0 ? 9 : 3);
        String gap = " ".repeat(lot(6) == 0 ? 1 + lot(2) : 0);
        if (way == 0) {
            return gap + lot(lot(2) == 0 ? 10 : 10000);
        }
        if (way <= 2) {
            return gap + names.charAt(lot(names.length()));
        }
        if (way == 3) {
            return gap + "!" + expression(deep - 1, names);
        }
        if (way == 4) {
            return gap + "(" + expression(deep - 1, names) + gap + ")";
        }
        return expression(deep - 1, names) + gap + "|&<=>+-*/".charAt(lot(9)) + expression(deep - 1, names);
    }

    private void someText() {
        int key = lot(3);
        StringBuilder b = new StringBuilder(KEYS.get(key)).append(lot(12) == 0 ? "" : " ");
        b.append(expression(lot(6), lot(15) == 0 ? "tw" : NAMES.get(key)));
        for (int i = lot(5) == 0 ? 1 + lot(2) : 0; i > 0; i--) {
            b.setCharAt(lot(b.length()), "|&<=>+-*/!() 0123456789lsntwspitefe~".charAt(lot(36)));
        }
        if (lot(12) == 0) {
            int many = 6 + lot(5);
            String open = lot(3) == 0 ? "!" : lot(2) == 0 ? "(" : "!(";
            b = new StringBuilder("fee ").append(open.repeat(many)).append("t").append(open.endsWith("(") ? ")".repeat(many) : "");
        }
        if (lot(6) == 0) {
            b.setLength(lot(b.length() + 1));
        }
        b.setLength(Math.min(b.length(), 96));
        tellTape(b.toString());
        call("text");
    }

    private void tellTape(String letters) {
        call("trim", 0);
        for (int i = 0; i < letters.length(); i += 12) {
            int[] three = new int[3];
            for (int k = 0; k < 12; k++) {
                three[k / 4] = three[k / 4] << 8 | (i + k < letters.length() ? letters.charAt(i + k) : lot(256));
            }
            call("feed", three);
        }
        call("trim", letters.length());
    }

    private void someRows() {
        int n = 1 + lot(8);
        if (image != null) {
            List<Integer> due = nightsTold(image, n);
            int end = lot(4) == 0 ? lot(due.size() + 1) : due.size();
            int otherwise = lot(3) == 0 ? lot(due.size() + 1) : -1;
            for (int i = 0; i < end; i++) {
                call("tell", due.get(i) + (i == otherwise ? 1 : 0));
            }
            if (lot(5) == 0) {
                call("tell", lot(9));
            }
        }
        call("check", n);
    }

    private void someSheetOfHouses() {
        if (now.roofs.isEmpty()) {
            return;
        }
        int sheet = lot(4);
        int n = lot(14);
        int roof = lot(now.roofs.size());
        boolean along = lot(2) == 0;
        call("sheet", sheet, lot(2), n);
        State s = now.same();
        for (int k = 0; k < n; k++) {
            boolean right = lot(9) > 0;
            int house = along ? s.roofs.get(roof).house : k < now.roofs.size() ? now.roofs.get(k).house : NONE;
            call("mark", sheet, k, right ? house : lot(12));
            s.oneNight();
        }
        call("like", sheet, lot(2));
        call("reads", sheet);
    }

    private boolean run(int number) {
        lot = number * 7919L + 1;
        if (number % 8 == 7) {
            for (int i = 0; i < 100; i++) {
                call("nights", 100);
            }
            call("keep");
        }
        if (number % 5 == 4) {
            call("deal", 12);
        }
        while (calls < 512 && wrong.isEmpty()) {
            int way = lot(60);
            if (way == 0) {
                someText();
            } else if (way == 1) {
                someRows();
            } else if (way == 2) {
                someSheetOfHouses();
            } else {
                String call = CALLS[lot(CALLS.length)];
                boolean seldom = call.equals("nights") || call.equals("seed") || call.equals("deal");
                if (!seldom || lot(4) == 0) {
                    call(call, argumentsFor(call));
                }
            }
        }
        for (String row : wrong) {
            System.out.println("run " + number + ": " + row);
        }
        return wrong.isEmpty();
    }

    public static void main(String[] args) {
        int runs = args.length > 0 ? Integer.parseInt(args[0]) : 400;
        int failed = 0;
        for (int number = 0; number < runs && failed < 20; number++) {
            failed += new RoofWarModel().run(number) ? 0 : 1;
        }
        System.out.println(failed == 0 ? runs + " runs answer as the model does" : failed + " runs do not answer as the model does");
        if (failed != 0) {
            System.exit(1);
        }
    }
}
