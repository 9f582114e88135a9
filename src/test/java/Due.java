// What the tests by hand share: rows that are due, draws of their own, and texts told byte by byte.
class Due {
    static final int BAD = -1000000001;
    static final int NO = -1000000002;
    static final int FULL = -1000000003;
    static final int NONE = -1000000005;
    static final int NOTHING = -1000000011;
    static final int KIND = -1000000012;
    static final int INDEX = -1000000013;
    static final int SIZE = -1000000014;
    static final int[] BOTH_ENDS = {Integer.MIN_VALUE, Integer.MAX_VALUE};

    static int drawn = 1;
    private static int wrong = 0;
    private static int rows = 0;

    static void due(String call, int got, int want) {
        rows++;
        if (got != want) {
            wrong++;
            System.out.println(call + " answered " + got + ", due is " + want);
        }
    }

    /** Ends the test: with exit code 1 if an answer was not the one that is due. */
    static void end() {
        System.out.println(wrong == 0 ? rows + " answers are as due" : wrong + " answers are not as due");
        if (wrong != 0) {
            System.exit(1);
        }
    }

    static int draw() {
        drawn = drawn * 1103515245 + 12345;
        return drawn >>> 8;
    }

    /** Puts the letters on the tape and reads them. */
    static int reads(RoofWar x, String letters) {
        puts(x, letters);
        return x.text();
    }

    static void puts(RoofWar x, String letters) {
        int before = x.count(7);
        for (int i = 0; i < letters.length(); i += 12) {
            x.feed(four(letters, i), four(letters, i + 4), four(letters, i + 8));
        }
        x.trim(before + letters.length());
    }

    private static int four(String letters, int from) {
        int v = 0;
        for (int i = from; i < from + 4; i++) {
            v = v << 8 | (i < letters.length() ? letters.charAt(i) & 255 : 'x');
        }
        return v;
    }

    /** The call of that name, with as many of the numbers as it takes. */
    static int answerOf(RoofWar x, String call, int... v) {
        switch (call) {
            case "roof": return x.roof(v[0], v[1], v[2], v[3]);
            case "told": return x.told(v[0], v[1]);
            case "as": return x.as(v[0], v[1]);
            case "turns": return x.turns(v[0], v[1]);
            case "set": return x.set(v[0], v[1], v[2]);
            case "moves": return x.moves(v[0], v[1]);
            case "house": return x.house(v[0], v[1]);
            case "lodges": return x.lodges(v[0], v[1], v[2]);
            case "rule": return x.rule(v[0], v[1]);
            case "deal": return x.deal(v[0]);
            case "seed": return x.seed(v[0]);
            case "nights": return x.nights(v[0]);
            case "hill": return x.hill(v[0]);
            case "loot": return x.loot(v[0], v[1]);
            case "steals": return x.steals(v[0]);
            case "fits": return x.fits(v[0], v[1]);
            case "prize": return x.prize(v[0], v[1]);
            case "behind": return x.behind(v[0], v[1]);
            case "gone": return x.gone(v[0]);
            case "guard": return x.guard(v[0], v[1], v[2]);
            case "becomes": return x.becomes(v[0], v[1], v[2]);
            case "like": return x.like(v[0], v[1]);
            case "fee": return x.fee();
            case "fine": return x.fine(v[0]);
            case "feed": return x.feed(v[0], v[1], v[2]);
            case "trim": return x.trim(v[0]);
            case "text": return x.text();
            case "textTold": return x.textTold(v[0], v[1]);
            case "why": return x.why(v[0]);
            case "sheet": return x.sheet(v[0], v[1], v[2]);
            case "mark": return x.mark(v[0], v[1], v[2]);
            case "pour": return x.pour(v[0]);
            case "reads": return x.reads(v[0]);
            case "copy": return x.copy(v[0], v[1], v[2], v[3], v[4]);
            case "lay": return x.lay(v[0], v[1], v[2]);
            case "ask": return x.ask(v[0], v[1]);
            case "item": return x.item(v[0], v[1]);
            case "rest": return x.rest(v[0], v[1]);
            case "tell": return x.tell(v[0]);
            case "check": return x.check(v[0]);
            case "keep": return x.keep();
            case "back": return x.back();
            default: return x.count(v[0]);
        }
    }

    /** What fee gives by the text, on a new hill. */
    static int fee(String expression) {
        RoofWar x = new RoofWar();
        due("text() of fee " + expression, reads(x, "fee " + expression), 0);
        return x.fee();
    }

    /** A new hill on which that many nights have passed, without a roof. */
    static RoofWar atNight(int night) {
        RoofWar x = new RoofWar();
        for (int left = night; left > 0; left -= 100) {
            x.nights(Math.min(100, left));
        }
        return x;
    }

    /** Heavy roofs that none carries come over all houses of a town that have none. */
    static void fills(RoofWar x, int town) {
        for (int h = 6 * town; h < 6 * town + 6; h++) {
            x.roof(0, 9, 0, h);
        }
    }
}
