import java.lang.reflect.Method;
import java.lang.reflect.Modifier;
import java.util.ArrayList;
import java.util.Comparator;
import java.util.List;

// "No call may throw or fail to end, for any arguments in any state": every call with all of the edges as its arguments,
// and rows of calls with any arguments at all, on a new hill, an ordinary one and one that is full of all. Whatever was
// answered, all that the hill holds is within the bounds that ../shared/DOC.md names.
public final class RoofWarAnything extends Due {
    private static final int MOST_CALLS = 512;
    private static final int HILLS = 3;
    /** What made() and holds() need of an object's calls, at most. */
    private static final int SPARE = 380;

    private static final int[] EDGES = {
        Integer.MIN_VALUE, NONE, -100000, -101, -2, -1, 0, 1, 2, 3, 5, 11, 12, 13, 24, 30, 60, 96, 100, 9999, 65536,
        Integer.MAX_VALUE};
    /** Of a call with four or five arguments: all of all edges would be too many. */
    private static final int[] FEWER_EDGES = {Integer.MIN_VALUE, -1, 0, 1, 3, 24, Integer.MAX_VALUE};

    private static long lot = 1;

    private static int lot(int n) {
        lot = lot * 6364136223846793005L + 1442695040888963407L;
        return (int) ((lot >>> 33) % n);
    }

    private static int anyNumber() {
        int way = lot(8);
        return way == 0 ? lot(1 << 30) * 4 + lot(4) : way < 3 ? EDGES[lot(EDGES.length)] : lot(14) - 1;
    }

    private static RoofWar made(int hill) {
        RoofWar x = new RoofWar();
        if (hill == 0) {
            return x;
        }
        for (int i = 0; i < (hill == 1 ? 3 : 14); i++) {
            reads(x, i % 3 == 0 ? "spite 0-l*n" : i % 3 == 1 ? "fee !(t/w)|w/0" : "fine 9999*9999*s-l");
        }
        x.deal(hill == 1 ? 5 : 12);
        for (int s = 0; s < (hill == 1 ? 2 : 4); s++) {
            x.sheet(s, s % 2, hill == 1 ? 3 : 24);
            x.mark(s, 1, s == 0 ? 70000 : NONE);
            x.lay(s, s, s);
        }
        for (int i = 0; i < 96 && hill == 2; i += 12) {
            x.feed(0x66656521, 0x28282828, 0x21212121);
        }
        x.keep();
        for (int i = 0; i < 60 && hill == 2; i++) {
            x.tell(i);
        }
        for (int i = 0; i < 100 && hill == 2; i++) {
            x.nights(100);
        }
        return x;
    }

    private static List<Method> calls() {
        List<Method> calls = new ArrayList<>();
        for (Method m : RoofWar.class.getDeclaredMethods()) {
            if (Modifier.isPublic(m.getModifiers())) {
                calls.add(m);
            }
        }
        calls.sort(Comparator.comparing(Method::getName));
        due("so many calls", calls.size(), 43);
        return calls;
    }

    // ---- what the hill holds

    private static void within(String what, int v, int least, int most) {
        if (v < least || v > most) {
            due(what + " is within " + least + " .. " + most, v, v < least ? least : most);
        }
    }

    private static void holds(String when, RoofWar x) {
        int[] most = {12, 9999, 99, 99, 100, 14, 60, 96};
        for (int what = 0; what < most.length; what++) {
            within(when + ": count " + what, x.count(what), 0, most[what]);
        }
        int over = 0;
        for (int h = 0; h < 12; h++) {
            within(when + ": PEOPLE of " + h, x.house(h, 0), 0, 9);
            within(when + ": WATCH of " + h, x.house(h, 1), 0, 100);
            int roof = x.house(h, 2);
            over += roof == NONE ? 0 : 1;
            due(when + ": the ROOF of HOUSE " + h + " is over it", roof == NONE ? h : x.told(roof, 3), h);
        }
        int roofs = x.count(0);
        due(when + ": each ROOF is over one HOUSE", over, roofs);
        int[] least = {0, 1, 0};
        int[] upTo = {5, 9, 99};
        for (int r = 0; r < roofs; r++) {
            for (int what = 0; what < 3; what++) {
                within(when + ": ROOF " + r + " what " + what, x.told(r, what), least[what], upTo[what]);
            }
        }
        due(when + ": no ROOF behind the last", x.told(roofs, 0), BAD);
        within(when + ": DRY of TOWN 0", x.hill(3), 0, 54);
        within(when + ": DRY of TOWN 1", x.hill(4), 0, 54);
    }

    // ---- the calls

    private static int[] edgesAt(long place, int many) {
        int[] edges = many > 3 ? FEWER_EDGES : EDGES;
        int[] v = new int[5];
        long left = place;
        for (int i = 0; i < many; i++) {
            v[i] = edges[(int) (left % edges.length)];
            left /= edges.length;
        }
        return v;
    }

    private static void allEdges(Method m, int hill) {
        int many = m.getParameterCount();
        long ways = 1;
        for (int i = 0; i < many; i++) {
            ways *= many > 3 ? FEWER_EDGES.length : EDGES.length;
        }
        RoofWar x = made(hill);
        int left = MOST_CALLS - SPARE;
        for (long place = 0; place < ways; place++) {
            if (left == 0) {
                holds("hill " + hill + " behind " + m.getName(), x);
                x = made(hill);
                left = MOST_CALLS - SPARE;
            }
            answerOf(x, m.getName(), edgesAt(place, many));
            left--;
        }
        holds("hill " + hill + " behind " + m.getName(), x);
    }

    private static void anyRow(List<Method> calls, int number) {
        RoofWar x = made(number % HILLS);
        for (int i = 0; i < MOST_CALLS - SPARE; i++) {
            String call = calls.get(lot(calls.size())).getName();
            answerOf(x, call, anyNumber(), anyNumber(), anyNumber(), anyNumber(), anyNumber());
        }
        holds("row " + number, x);
    }

    public static void main(String[] args) {
        List<Method> calls = calls();
        for (int hill = 0; hill < HILLS; hill++) {
            for (Method m : calls) {
                allEdges(m, hill);
            }
        }
        for (int number = 0; number < 3000; number++) {
            anyRow(calls, number);
        }
        end();
    }
}
