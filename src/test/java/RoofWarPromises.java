// Each promise of ../shared/DOC.md by hand: ordinary inputs, the edges it names, wrong inputs in their order.
public final class RoofWarPromises extends Due {
    private static void newObject() {
        RoofWar x = new RoofWar();
        int[] counts = {0, 0, 12, 12, 40, 0, 0, 0, 1};
        for (int i = 0; i < counts.length; i++) {
            due("new: count " + i, x.count(i), counts[i]);
        }
        for (int i = 0; i < 6; i++) {
            due("new: hill " + i, x.hill(i), 0);
        }
        for (int h = 0; h < 12; h++) {
            due("new: people " + h, x.house(h, 0), 3);
            due("new: watch " + h, x.house(h, 1), 0);
            due("new: roof over " + h, x.house(h, 2), NONE);
            due("new: dry " + h, x.house(h, 3), 0);
        }
        for (int i = 0; i < 4; i++) {
            due("new: sheet " + i, x.reads(i), NOTHING);
        }
        for (int i = 0; i < 5; i++) {
            due("new: slot " + i, x.lay(i, 0, 0), 0);
        }
        due("new: image", x.back(), NO);
    }

    private static void roof() {
        RoofWar x = new RoofWar();
        for (int v : new int[] {-1, 6, Integer.MIN_VALUE, Integer.MAX_VALUE}) {
            due("roof kind " + v, x.roof(v, 1, 1, 0), BAD);
        }
        for (int v : new int[] {0, 10, Integer.MIN_VALUE, Integer.MAX_VALUE}) {
            due("roof size " + v, x.roof(0, v, 1, 0), BAD);
        }
        for (int v : new int[] {-1, 100, Integer.MIN_VALUE, Integer.MAX_VALUE}) {
            due("roof leak " + v, x.roof(0, 1, v, 0), BAD);
        }
        for (int v : new int[] {-1, 12, Integer.MIN_VALUE, Integer.MAX_VALUE}) {
            due("roof house " + v, x.roof(0, 1, 1, v), BAD);
        }
        due("no roof came", x.count(0), 0);
        due("roof 0", x.roof(0, 1, 0, 11), 0);
        due("roof 1", x.roof(5, 9, 99, 0), 1);
        due("roof over a roof", x.roof(0, 1, 0, 0), NO);
        due("roof wrong and over a roof", x.roof(6, 1, 0, 0), BAD);
        for (int h = 1; h < 11; h++) {
            due("roof over " + h, x.roof(h % 6, h % 9 + 1, h, h), h + 1);
        }
        due("roof too many", x.roof(0, 1, 0, 3), NO);
        due("roofs", x.count(0), 12);
    }

    private static void told() {
        RoofWar x = new RoofWar();
        int[][] weighs = {{2, 10, 18}, {1, 5, 9}, {4, 20, 36}, {1, 5, 9}, {2, 18, 34}, {1, 1, 1}};
        int[][] covers = {{1, 5, 9}, {1, 5, 9}, {4, 8, 12}, {0, 2, 4}, {4, 8, 12}, {0, 0, 0}};
        int[][] drips = {{0, 5, 9}, {2, 7, 11}, {0, 5, 9}, {4, 14, 22}, {1, 1, 1}, {0, 5, 9}};
        int[][] worth = {{1, 5, 9}, {5, 9, 13}, {29, 25, 21}, {10, 18, 26}, {23, 19, 15}, {2, 2, 2}};
        int[] sizes = {1, 5, 9};
        int[] leaks = {9, 50, 99};
        x.roof(0, 1, 0, 7);
        for (int kind = 0; kind < 6; kind++) {
            x.turns(0, kind);
            for (int i = 0; i < 3; i++) {
                x.set(0, 1, sizes[i]);
                x.set(0, 2, leaks[i]);
                int[] want = {kind, sizes[i], leaks[i], 7, weighs[kind][i], covers[kind][i], drips[kind][i], worth[kind][i]};
                for (int what = 0; what < 8; what++) {
                    due("told kind " + kind + " size " + sizes[i] + " what " + what, x.told(0, what), want[what]);
                }
            }
        }
        due("told what 8", x.told(0, 8), BAD);
        due("told what -1", x.told(0, -1), BAD);
        due("told roof 1", x.told(1, 0), BAD);
        due("told roof -1", x.told(-1, 0), BAD);
        for (int v : BOTH_ENDS) {
            due("told roof " + v, x.told(v, 0), BAD);
            due("told what " + v, x.told(0, v), BAD);
        }
    }

    private static void asAndTurns() {
        RoofWar x = new RoofWar();
        x.roof(0, 1, 1, 4);
        boolean[][] is = {
            {true, false, false, false, false, false}, {true, true, false, false, false, false},
            {true, false, true, false, false, false}, {true, true, false, true, false, false},
            {true, false, true, false, true, false}, {true, false, false, false, false, true}};
        int was = 0;
        for (int kind = 0; kind < 6; kind++) {
            due("turns " + kind, x.turns(0, kind), was);
            was = kind;
            for (int as = 0; as < 6; as++) {
                due("as " + kind + " for " + as, x.as(0, as), is[kind][as] ? 4 : KIND);
            }
        }
        for (int v : new int[] {-1, 6, Integer.MIN_VALUE, Integer.MAX_VALUE}) {
            due("as kind " + v, x.as(0, v), BAD);
            due("turns kind " + v, x.turns(0, v), BAD);
        }
        for (int v : new int[] {-1, 1, Integer.MIN_VALUE, Integer.MAX_VALUE}) {
            due("as roof " + v, x.as(v, 0), BAD);
            due("turns roof " + v, x.turns(v, 0), BAD);
        }
        due("as it was", x.told(0, 0), 5);
    }

    private static void setAndMoves() {
        RoofWar x = new RoofWar();
        x.roof(0, 4, 50, 2);
        x.roof(0, 4, 50, 3);
        due("set size 0", x.set(0, 1, 0), BAD);
        due("set size 10", x.set(0, 1, 10), BAD);
        due("set leak -1", x.set(0, 2, -1), BAD);
        due("set leak 100", x.set(0, 2, 100), BAD);
        due("set what 0", x.set(0, 0, 1), BAD);
        due("set what 3", x.set(0, 3, 1), BAD);
        due("set roof 2", x.set(2, 1, 1), BAD);
        due("set roof -1", x.set(-1, 1, 1), BAD);
        due("set size 1", x.set(0, 1, 1), 4);
        due("set size 9", x.set(0, 1, 9), 1);
        due("set leak 0", x.set(0, 2, 0), 50);
        due("set leak 99", x.set(0, 2, 99), 0);
        due("leak", x.told(0, 2), 99);
        due("size", x.told(0, 1), 9);
        due("moves over its own", x.moves(0, 2), NO);
        due("moves over another's", x.moves(0, 3), NO);
        due("moves house 12", x.moves(0, 12), BAD);
        due("moves house -1", x.moves(0, -1), BAD);
        due("moves roof 2", x.moves(2, 4), BAD);
        due("moves roof -1", x.moves(-1, 2), BAD);
        due("moves", x.moves(0, 11), 2);
        due("house left", x.house(2, 2), NONE);
        due("house reached", x.house(11, 2), 0);
        due("its house", x.told(0, 3), 11);
        due("moves back", x.moves(0, 2), 11);
    }

    private static void houses() {
        RoofWar x = new RoofWar();
        due("people 10", x.lodges(0, 0, 10), BAD);
        due("people -1", x.lodges(0, 0, -1), BAD);
        due("watch 101", x.lodges(0, 1, 101), BAD);
        due("watch -1", x.lodges(0, 1, -1), BAD);
        due("lodges what 2", x.lodges(0, 2, 0), BAD);
        due("lodges what -1", x.lodges(0, -1, 0), BAD);
        due("lodges house 12", x.lodges(12, 0, 0), BAD);
        due("lodges house -1", x.lodges(-1, 0, 0), BAD);
        due("people 9", x.lodges(11, 0, 9), 3);
        due("watch 100", x.lodges(11, 1, 100), 0);
        due("people", x.house(11, 0), 9);
        due("watch", x.house(11, 1), 100);
        x.roof(0, 5, 0, 11);
        due("roof", x.house(11, 2), 0);
        due("dry as many as it covers", x.house(11, 3), 5);
        due("people 0", x.lodges(11, 0, 4), 9);
        due("dry all", x.house(11, 3), 4);
        x.turns(0, 5);
        due("dry under painted sheet", x.house(11, 3), 0);
        due("no roof", x.house(10, 2), NONE);
        due("no dry", x.house(10, 3), 0);
        due("house what 4", x.house(0, 4), BAD);
        due("house what -1", x.house(0, -1), BAD);
        due("house 12", x.house(12, 0), BAD);
        due("house -1", x.house(-1, 0), BAD);
    }

    private static void ruleAndSeed() {
        RoofWar x = new RoofWar();
        due("strength 100", x.rule(0, 100), BAD);
        due("strength -1", x.rule(1, -1), BAD);
        due("rain 101", x.rule(2, 101), BAD);
        due("rain -1", x.rule(2, -1), BAD);
        due("rule what 3", x.rule(3, 0), BAD);
        due("rule what -1", x.rule(-1, 0), BAD);
        due("strength 0", x.rule(0, 99), 12);
        due("strength 1", x.rule(1, 0), 12);
        due("rain", x.rule(2, 0), 40);
        due("rain 0", x.rule(2, 100), 0);
        due("strength 0 now", x.rule(0, 1), 99);
        due("strength 1 now", x.count(3), 0);
        due("rain now", x.count(4), 100);
        due("seed", x.seed(Integer.MIN_VALUE), 1);
        due("seed again", x.seed(5), Integer.MIN_VALUE);
        due("z", x.count(8), 5);
    }

    private static void deal() {
        RoofWar x = new RoofWar();
        for (int v : new int[] {0, 13, -1, Integer.MIN_VALUE, Integer.MAX_VALUE}) {
            due("deal " + v, x.deal(v), BAD);
        }
        drawn = 99;
        x.seed(99);
        x.roof(5, 2, 2, 5);
        int[] over = new int[12];
        over[5] = 1;
        due("deal", x.deal(4), 4);
        due("deal up to all", x.deal(12), 7);
        for (int r = 1; r < 12; r++) {
            due("dealt kind", x.told(r, 0), draw() % 6);
            due("dealt size", x.told(r, 1), 1 + draw() % 9);
            due("dealt leak", x.told(r, 2), draw() % 50);
            int h = draw() % 12;
            while (over[h] == 1) {
                h = (h + 1) % 12;
            }
            over[h] = 1;
            due("dealt house", x.told(r, 3), h);
        }
        due("z after", x.count(8), drawn);
        due("deal without room", x.deal(1), 0);
        due("no draws", x.count(8), drawn);
    }

    private static void nights() {
        RoofWar x = new RoofWar();
        for (int v : new int[] {0, 101, -1, Integer.MIN_VALUE, Integer.MAX_VALUE}) {
            due("nights " + v, x.nights(v), BAD);
        }
        x.rule(2, 0);
        x.roof(0, 6, 95, 1);
        x.roof(1, 9, 0, 2);
        x.rule(0, 8);
        x.rule(1, 12);
        // night 0: town 0 first, finds nothing over the wall; then town 1 takes one of two
        drawn = 1;
        int taken = draw() % 2;
        draw();
        draw();
        due("nights 1", x.nights(1), 1);
        due("the one drawn", x.told(taken, 3), 6);
        due("the other one", x.told(1 - taken, 3), 2 - taken);
        due("leak in spite", x.told(taken, 2), taken == 0 ? 99 : 5);
        due("z after a night", x.count(8), drawn);
        due("THE NIGHT", x.count(1), 1);
        due("nothing wet", x.hill(2), 0);

        x = new RoofWar();
        x.rule(2, 100);
        x.roof(3, 9, 99, 0);
        x.roof(0, 9, 30, 1);
        x.lodges(11, 0, 0);
        due("too heavy but hay", x.loot(1, 0), 1);
        x.lodges(0, 1, 100);
        due("watched", x.nights(1), 0);
        due("CAUGHT", x.hill(1), 1);
        due("WET", x.hill(2), 22 + 3 + 20 * 9);
        x.lodges(0, 1, 0);
        x.rule(0, 0);
        due("not watched", x.nights(1), 1);
        due("over its home", x.told(0, 3), 6);
        due("CAUGHT as before", x.hill(1), 1);

        x = new RoofWar();
        x.rule(2, 0);
        x.roof(0, 1, 0, 0);
        due("there, and back a night later", x.nights(2), 2);
        due("over the first house of its own town", x.told(0, 3), 0);
        drawn = 1;
        for (int i = 0; i < 6; i++) {
            draw();
        }
        due("draws of two nights", x.count(8), drawn);
        x.nights(1);
        x.moves(0, 4);
        due("there and back in one night: town 1 goes first", x.nights(1), 2);
        due("over the first house again", x.told(0, 3), 0);

        x = new RoofWar();
        for (int h = 6; h < 12; h++) {
            x.roof(0, 9, 0, h);
        }
        x.roof(0, 1, 0, 0);
        drawn = 1;
        draw();
        due("no home", x.nights(1), 0);
        due("one draw, for rain", x.count(8), drawn);

        // of three that may be carried, the one by the rest of the first draw
        for (int seed = 0; seed < 12; seed++) {
            x = new RoofWar();
            x.seed(seed * 1000003);
            drawn = seed * 1000003;
            x.roof(0, 9, 0, 0);
            x.roof(0, 1, 0, 5);
            x.roof(0, 1, 0, 4);
            x.roof(0, 1, 0, 3);
            int which = 1 + draw() % 3;
            x.nights(1);
            for (int r = 1; r < 4; r++) {
                due("one of three, seed " + seed, x.told(r, 3), r == which ? 6 : 6 - r);
            }
        }

        x = new RoofWar();
        x.rule(2, 100);
        for (int h = 0; h < 12; h++) {
            x.lodges(h, 0, h % 2);
        }
        x.nights(1);
        due("one is enough to be wet", x.hill(2), 120);

        x = new RoofWar();
        for (int i = 0; i < 99; i++) {
            x.nights(100);
        }
        due("night 9900", x.count(1), 9900);
        x.roof(0, 1, 0, 0);
        due("nights up to 9999", x.nights(100) > 0 ? 1 : 0, 1);
        due("night 9999", x.count(1), 9999);
        int z = x.count(8);
        due("no more nights", x.nights(100), 0);
        due("z as it was", x.count(8), z);
    }

    private static void watchAndRainAtTheirEdges() {
        for (int seed = 0; seed < 20; seed++) {
            drawn = seed * 7919;
            draw();
            int luck = draw() % 100;
            int rain = draw() % 100;
            for (int more = 0; more < 2; more++) {
                RoofWar x = new RoofWar();
                x.seed(seed * 7919);
                x.roof(0, 1, 0, 3);
                x.lodges(3, 1, luck + more);
                x.rule(2, rain + more);
                due("watch " + (luck + more) + " with " + luck, x.nights(1), 1 - more);
                due("caught", x.hill(1), more);
                due("rain " + (rain + more) + " with " + rain, x.hill(2), more * 220);
            }
        }
    }

    private static void hillAndLoot() {
        RoofWar x = new RoofWar();
        x.roof(0, 2, 10, 0);
        x.roof(0, 6, 11, 1);
        x.roof(0, 7, 12, 2);
        x.roof(5, 7, 13, 6);
        x.roof(2, 1, 14, 7);
        x.lodges(7, 0, 9);
        due("dry of town 0", x.hill(3), 8);
        due("dry of town 1", x.hill(4), 4);
        due("leak of all", x.hill(5), 60);
        due("hill 6", x.hill(6), BAD);
        due("hill -1", x.hill(-1), BAD);
        due("loot of 0", x.loot(0, 0), 8 + 16);
        due("loot of 1", x.loot(1, 0), 1 + 2);
        x.rule(1, 14);
        due("loot of 1, stronger", x.loot(1, 0), 1 + 2 + 4);
        x.rule(0, 3);
        due("loot of 0, weaker", x.loot(0, 0), 8);
        due("home of 0", x.loot(0, 1), 3);
        due("home of 1", x.loot(1, 1), 8);
        x.moves(0, 5);
        due("home of 0 again", x.loot(0, 1), 0);
        for (int v : new int[] {-1, 2, Integer.MIN_VALUE, Integer.MAX_VALUE}) {
            due("loot town " + v, x.loot(v, 0), BAD);
            due("loot what " + v, x.loot(0, v), BAD);
        }
        for (int h = 8; h < 12; h++) {
            x.roof(0, 9, 0, h);
        }
        due("no home of 1", x.loot(1, 1), NONE);
        due("loot without a home", x.loot(1, 0), 1 + 2 + 4);
    }

    private static void steals() {
        RoofWar x = new RoofWar();
        x.roof(0, 6, 97, 2);
        x.roof(0, 7, 0, 1);
        x.roof(1, 3, 20, 6);
        x.lodges(2, 1, 100);
        due("steals roof 3", x.steals(3), BAD);
        due("steals roof -1", x.steals(-1), BAD);
        due("steals too heavy", x.steals(1), NO);
        due("steals", x.steals(0), 7);
        due("leak held", x.told(0, 2), 99);
        due("STOLEN", x.hill(0), 1);
        due("steals back", x.steals(0), 0);
        due("steals thatch", x.steals(2), 2);
        due("leak more", x.told(2, 2), 25);
        due("no draws", x.count(8), 1);
        for (int h = 6; h < 12; h++) {
            x.roof(0, 9, 0, h);
        }
        due("steals without a home", x.steals(0), NO);
        due("STOLEN 3", x.hill(0), 3);

        x = new RoofWar();
        x.roof(0, 2, 40, 0);
        reads(x, "spite l * 2 - 79");
        due("steals by spite", x.steals(0), 6);
        due("leak by spite, as it was", x.told(0, 2), 41);
        reads(x, "spite 0 - 5");
        x.steals(0);
        due("spite not below 0", x.told(0, 2), 41);
        x.set(0, 2, 0);
        reads(x, "spite 9999");
        x.steals(0);
        due("spite not above 99", x.told(0, 2), 99);
        x.set(0, 2, 0);
        reads(x, "spite s * 10 + n");
        x.rule(0, 0);
        x.rule(1, 0);
        x.nights(3);
        x.rule(0, 12);
        x.steals(0);
        due("spite by size and night", x.told(0, 2), 23);
        reads(x, "spite 0");
        x.rule(1, 12);
        x.steals(0);
        due("spite 0", x.told(0, 2), 23);
    }

    private static void fits() {
        RoofWar x = new RoofWar();
        due("no roofs", x.fits(1, -1), 0);
        for (int k = 0; k < 6; k++) {
            due("none over " + k, x.fits(1, k), NONE);
        }
        x.roof(0, 5, 0, 6);
        x.roof(0, 2, 0, 7);
        x.roof(5, 1, 0, 11);
        x.roof(0, 9, 0, 0);
        x.lodges(6, 0, 1);
        x.lodges(9, 0, 9);
        int[] want = {2, 1, NONE, 0, NONE, NONE};
        due("dry", x.fits(1, -1), 7);
        x.lodges(6, 0, 9);
        x.lodges(7, 0, 0);
        x.lodges(8, 0, 0);
        x.lodges(9, 0, 1);
        due("dry with the first house", x.fits(1, -1), 7);
        x.lodges(9, 0, 9);
        x.lodges(6, 0, 1);
        x.lodges(7, 0, 3);
        x.lodges(8, 0, 3);
        for (int k = 0; k < 6; k++) {
            due("fits 1 " + k, x.fits(1, k), want[k]);
        }
        due("the other town", x.fits(0, -1), 3);
        due("the other town's first", x.fits(0, 0), 3);
        due("nothing moved", x.told(0, 3), 6);
        for (int v : new int[] {-2, 6, Integer.MIN_VALUE, Integer.MAX_VALUE}) {
            due("fits what " + v, x.fits(0, v), BAD);
        }
        for (int v : new int[] {-1, 2, Integer.MIN_VALUE, Integer.MAX_VALUE}) {
            due("fits town " + v, x.fits(v, 0), BAD);
        }
    }

    private static void prize() {
        RoofWar x = new RoofWar();
        due("nothing to carry", x.prize(0, 0), NONE);
        x.roof(0, 2, 0, 6);
        x.roof(0, 3, 0, 7);
        x.roof(0, 4, 0, 8);
        x.roof(0, 9, 0, 9);
        due("prize, the least of several", x.prize(0, 0), 1);
        due("prize, 3 less 8", x.prize(0, 1), -5);
        x.lodges(0, 0, 9);
        due("prize with more people at home", x.prize(0, 0), 2);
        due("prize, 4 less 8", x.prize(0, 1), -4);
        x.roof(0, 9, 0, 0);
        due("prize again", x.prize(0, 0), 1);
        due("prize, 12 less 8", x.prize(0, 1), 12 - 8);
        due("prize of 1: too heavy", x.prize(1, 0), NONE);
        x.rule(1, 99);
        due("prize of 1", x.prize(1, 0), 4);
        due("by how much more", x.prize(1, 1), 11 + 3);
        for (int v : new int[] {-1, 2, Integer.MIN_VALUE, Integer.MAX_VALUE}) {
            due("prize town " + v, x.prize(v, 0), BAD);
            due("prize what " + v, x.prize(0, v), BAD);
        }
        for (int h = 1; h < 6; h++) {
            x.roof(0, 9, 0, h);
        }
        due("no home", x.prize(0, 1), NONE);
    }

    private static void behind() {
        RoofWar x = new RoofWar();
        x.deal(5);
        x.rule(0, 99);
        x.rule(1, 99);
        x.lodges(0, 1, 40);
        x.lodges(6, 1, 40);
        x.nights(3);
        x.keep();
        for (int n = 0; n <= 100; n += 10) {
            int z = x.count(8);
            int[] thought = new int[10];
            for (int w = 0; w < 10; w++) {
                thought[w] = x.behind(n, w);
            }
            due("behind changes no z", x.count(8), z);
            due("nor the night", x.count(1), 3);
            if (n > 0) {
                x.nights(n);
            }
            for (int w = 0; w < 5; w++) {
                due("behind " + n + " what " + w, thought[w], x.hill(w));
                due("behind " + n + " roof " + w, thought[5 + w], x.told(w, 3));
            }
            x.back();
        }
        for (int v : new int[] {-1, 101, Integer.MIN_VALUE, Integer.MAX_VALUE}) {
            due("behind n " + v, x.behind(v, 0), BAD);
        }
        for (int v : new int[] {-1, 10, Integer.MIN_VALUE, Integer.MAX_VALUE}) {
            due("behind what " + v, x.behind(0, v), BAD);
        }
        x = new RoofWar();
        for (int i = 0; i < 100; i++) {
            x.nights(100);
        }
        x.roof(0, 1, 0, 0);
        due("behind the last night", x.behind(100, 0) > 0 ? 1 : 0, 1);
        due("the night stays", x.count(1), 9999);
    }

    private static void gone() {
        RoofWar x = new RoofWar();
        due("gone roof 0", x.gone(0), BAD);
        x.roof(0, 1, 0, 0);
        due("gone at once", x.gone(0), 1);
        due("gone roof 1", x.gone(1), BAD);
        due("gone roof -1", x.gone(-1), BAD);
        due("nothing changed", x.told(0, 3), 0);
        x.rule(1, 1);
        due("never gone", x.gone(0), NONE);
        x.rule(1, 12);
        for (int seed = 0; seed < 6; seed++) {
            x.seed(seed);
            x.lodges(0, 1, 98);
            int n = x.gone(0);
            if (n == NONE) {
                due("there all the time", x.behind(100, 5), 0);
            } else if (n <= 100) {
                due("there the night ahead", x.behind(n - 1, 5), 0);
                due("gone then", x.behind(n, 5), 6);
            }
        }
        // watched all but surely: the search goes on to 200 and no further
        x.lodges(0, 1, 99);
        int far = 0;
        for (int seed = 0; seed < 40; seed++) {
            x.seed(seed);
            int n = x.gone(0);
            far = n != NONE && n > 100 ? far + 1 : far;
        }
        due("some are gone behind more than 100", far > 0 ? 1 : 0, 1);
        int last = 0;
        int beyond = 0;
        for (int seed = 0; seed < 50000 && (last == 0 || beyond == 0); seed++) {
            x = new RoofWar();
            x.roof(0, 1, 0, 0);
            x.lodges(0, 1, 99);
            x.seed(seed);
            x.rule(0, 0);
            int n = x.gone(0);
            x.nights(1);
            int later = x.gone(0);
            if (n == 200) {
                last++;
                due("gone behind 200", later, 199);
            } else if (later == 200) {
                beyond++;
                due("gone behind 201", n, NONE);
            }
        }
        due("gone behind 200 and 201 are both tried", last > 0 && beyond > 0 ? 1 : 0, 1);
    }

    private static void guardAndBecomes() {
        RoofWar x = new RoofWar();
        x.roof(0, 2, 0, 2);
        x.rule(0, 0);
        due("guard the only roof", x.guard(0, 10, 0), 2);
        due("guard dry", x.guard(0, 10, 1), 2);
        due("guard of the other town: all alike", x.guard(1, 10, 0), 6);
        due("guard of the other town: dry", x.guard(1, 10, 1), 2);
        due("watch as it was", x.house(2, 1), 0);
        for (int v : new int[] {-1, 2, Integer.MIN_VALUE, Integer.MAX_VALUE}) {
            due("guard town " + v, x.guard(v, 1, 0), BAD);
            due("guard what " + v, x.guard(0, 1, v), BAD);
            due("becomes what " + v, x.becomes(0, 1, v), BAD);
        }
        for (int v : new int[] {0, 61, Integer.MIN_VALUE, Integer.MAX_VALUE}) {
            due("guard n " + v, x.guard(0, v, 0), BAD);
            due("becomes n " + v, x.becomes(0, v, 0), BAD);
        }
        due("guard n 60", x.guard(0, 60, 0), 2);
        due("guard n 1", x.guard(0, 1, 0), 2);
        due("becomes n 1", x.becomes(0, 1, 1), 0);
        for (int v : new int[] {-1, 1, Integer.MIN_VALUE, Integer.MAX_VALUE}) {
            due("becomes roof " + v, x.becomes(v, 1, 0), BAD);
        }
        due("becomes: all are gone", x.becomes(0, 5, 0), 0);
        due("becomes: none dry", x.becomes(0, 5, 1), 0);
        x.rule(1, 3);
        due("becomes: heavy enough", x.becomes(0, 60, 0), 2);
        due("becomes: dome covers", x.becomes(0, 60, 1), 3);
        x.lodges(2, 1, 100);
        x.lodges(2, 0, 9);
        due("becomes: watched", x.becomes(0, 5, 0), 2);
        due("becomes: dome covers all it can", x.becomes(0, 5, 1), 5);
        x.lodges(2, 0, 1);
        due("becomes: the least of several", x.becomes(0, 5, 0), 0);
        due("kind as it was", x.told(0, 0), 0);
        x.moves(0, 9);
        x.lodges(9, 0, 2);
        due("becomes in the other town", x.becomes(0, 5, 1), 2);
    }

    private static void like() {
        RoofWar x = new RoofWar();
        due("like sheet 4", x.like(4, 0), BAD);
        due("like sheet -1", x.like(-1, 0), BAD);
        due("like what 2", x.like(0, 2), BAD);
        due("like what -1", x.like(0, -1), BAD);
        due("like missing", x.like(0, 0), NOTHING);
        x.sheet(0, 1, 4);
        due("like no roofs", x.like(0, 0), NONE);
        due("like no roofs, wrong", x.like(0, 2), BAD);
        x.roof(0, 9, 0, 4);
        x.roof(0, 9, 0, 1);
        x.roof(0, 1, 0, 2);
        for (int k = 0; k < 4; k++) {
            x.mark(0, k, 1);
        }
        due("like", x.like(0, 0), 1);
        due("like at", x.like(0, 1), 4);
        x.mark(0, 0, NONE);
        x.mark(0, 1, 4);
        due("like, fewer numbers", x.like(0, 1), 2);
        x.mark(0, 2, 4);
        x.mark(0, 3, 99);
        due("like another", x.like(0, 0), 0);
        x.mark(0, 0, 2);
        x.mark(0, 1, 6);
        x.mark(0, 2, 6);
        due("like the one that is gone", x.like(0, 0), 2);
        due("place 0 is now", x.like(0, 1), x.behind(2, 7) == 6 ? 3 : 2);
        x.lodges(4, 1, 100);
        for (int k = 0; k < 4; k++) {
            x.mark(0, k, 4);
        }
        due("like roof 0", x.like(0, 0), 0);
        due("like roof 0 at all", x.like(0, 1), 4);
        x.sheet(1, 0, 0);
        due("like by no places", x.like(1, 0), 0);
        due("at no places", x.like(1, 1), 0);
        due("z as it was", x.count(8), 1);
    }

    private static void feeAndFine() {
        RoofWar x = new RoofWar();
        x.roof(0, 3, 20, 0);
        x.rule(2, 100);
        x.nights(1);
        due("fee without a text", x.fee(), 1);
        due("fine without a text", x.fine(0), 25);
        due("fine roof 1", x.fine(1), BAD);
        due("fine roof -1", x.fine(-1), BAD);
        due("text", reads(x, "fee w*10+t"), 0);
        due("fee", x.fee(), x.hill(2) * 10 + 1);
        due("text", reads(x, "fine s*1000+l"), 1);
        due("fine", x.fine(0), 3025);
        due("text", reads(x, "fee 0-t"), 2);
        due("fee by the last", x.fee(), -1);
        due("fine as before", x.fine(0), 3025);
    }

    private static void feedAndTrim() {
        RoofWar x = new RoofWar();
        due("feed", x.feed(0x66656520, 0x7820FFFF, -1), 12);
        due("highest byte first", x.text(), -104);
        due("used up", x.count(7), 0);
        for (int i = 1; i <= 8; i++) {
            due("feed " + i, x.feed(0x20202020, 0x20202020, 0x20202020), 12 * i);
        }
        due("feed too much", x.feed(0, 0, 0), FULL);
        due("bytes", x.count(7), 96);
        due("trim 97", x.trim(97), BAD);
        due("trim -1", x.trim(-1), BAD);
        due("trim 96", x.trim(96), 96);
        due("trim 85", x.trim(85), 85);
        due("feed above 96", x.feed(0, 0, 0), FULL);
        due("trim 84", x.trim(84), 84);
        due("feed up to 96", x.feed(0, 0, 0), 96);
        due("fault at the first that is no blank", x.text(), -184);
        due("trim 0", x.trim(0), 0);
        due("nothing on the tape", x.text(), -100);
        due("trim 1", x.trim(1), BAD);
    }

    private static void faults() {
        String[] texts = {
            "", "   ", "spi", "spitel", "spite", "spite ", "spite l ", "spite l l", "spite l5", "spite5", "spite 5l",
            "spite t", "fee t", "fee l", "fine n", "fine s", "spite ls", "fee(t)", "fee!t", "fee 12345", "fee 0000",
            "fee 1<2<3", "fee 1<2&2<3|4=4", "fee (1", "fee (1))", "fee ()", "fee +1", "fee 1 +", "fee 1+-1", "fee 1 2",
            "fee t,", "Fee t", "fee t\u0000", "\tfee t", "fee 1=", "fee (1<2)<3", "fee !!t", "fee 1!2", "fee 1&&2",
            "  fee  (  t  )  ", "fee t  x", "5 fee t", "fee spite", "fee \u00ff", "fine (l|s", "fee 1(2)",
            "fee ta", "fee tz", "fee t`", "fee t{", "fee 1/0", "fee 9999:", "xee t", "fex t", "fee (t", "fee t)"};
        int[] want = {
            0, 3, 0, 0, 5, 6, -1, 8, 7, 5, 7,
            6, -1, 4, 5, -1, 6, -1, -1, 4, -1,
            7, -1, 6, 7, 5, 4, 7, 6, 6,
            5, 0, 5, 0, 6, -1, -1, 5, 6,
            -1, 7, 0, 4, 4, 9, 5,
            4, 4, 5, 5, -1, 8, 0, 0, 6, 5};
        RoofWar x = new RoofWar();
        int told = 0;
        for (int i = 0; i < texts.length; i++) {
            due("text '" + texts[i] + "'", reads(x, texts[i]), want[i] < 0 ? told : -100 - want[i]);
            told = want[i] < 0 ? told + 1 : told;
            due("tape used up", x.count(7), 0);
            due("texts", x.count(5), told);
        }
        x = new RoofWar();
        due("fault behind some of a text", reads(x, "fee 3+4*t)"), -109);
        due("text behind a fault", reads(x, "fee 8"), 0);
        due("leaves of that text", x.textTold(0, 1), 1);
        due("it gives", x.fee(), 8);
        x = new RoofWar();
        due("eight brackets", reads(x, "fee ((((((((t))))))))"), 0);
        due("nine brackets", reads(x, "fee (((((((((t)))))))))"), -112);
        due("eight nots", reads(x, "fee !!!!!!!!t"), 1);
        due("nine nots", reads(x, "fee !!!!!!!!!t"), -112);
        due("eight of each", reads(x, "fee !(!(!(!(!(!(!(!(t))))))))"), 2);
        due("ninth not within brackets", reads(x, "fee !(!(!(!(!(!(!(!(!t))))))))"), -120);
        due("ninth bracket behind nots", reads(x, "fee !(!(!(!(!(!(!(!((t)))))))))"), -120);
        due("brackets that are shut again", reads(x, "fee ((((((((t))))))))+((((((((t))))))))"), 3);
        due("nots that are over", reads(x, "fee !!!!!!!!t+!!!!!!!!t"), 4);
        due("a not within shut brackets", reads(x, "fee (!!!!!!!!t)+!(!!!!!!!t)"), 5);
    }

    private static void textsThatCount() {
        RoofWar x = new RoofWar();
        due("why of none", x.why(0), NONE);
        due("why -1", x.why(-1), BAD);
        due("why 3", x.why(3), BAD);
        due("spite", reads(x, "spite l+s*n-(4|12)"), 0);
        due("fee", reads(x, "fee 7"), 1);
        due("fine", reads(x, "fine !s"), 2);
        due("why spite", x.why(0), 0);
        due("why fee", x.why(1), 1);
        due("why fine", x.why(2), 2);
        int[][] told = {{0, 5}, {1, 1}, {2, 1}};
        for (int i = 0; i < 3; i++) {
            due("key of " + i, x.textTold(i, 0), told[i][0]);
            due("leaves of " + i, x.textTold(i, 1), told[i][1]);
        }
        due("textTold what 2", x.textTold(0, 2), BAD);
        due("textTold what -1", x.textTold(0, -1), BAD);
        due("textTold 3", x.textTold(3, 0), BAD);
        due("textTold -1", x.textTold(-1, 0), BAD);
        for (int i = 3; i < 14; i++) {
            due("text " + i, reads(x, "fee " + i), i);
        }
        due("the last counts", x.fee(), 13);
        due("why the last", x.why(1), 13);
        due("text too many", reads(x, "fee 99"), FULL);
        due("used up", x.count(7), 0);
        due("fault ahead of full", reads(x, "fee 99 9"), -107);
        due("fee as it was", x.fee(), 13);
        due("texts", x.count(5), 14);
        due("textTold 14", x.textTold(14, 0), BAD);
    }

    private static void sums() {
        String[] texts = {
            "1+2*3", "7/2", "0-7/2", "(0-7)/2", "5/0", "5/0+1", "8-3-2", "100/10/5", "2<3", "3<2", "2=2", "2>3", "3>2",
            "1+1<3", "1<2&3", "0&1", "0|5", "0|0", "1&0|1", "1|1&0", "!0", "!5", "!0+1", "!!7", "!(1<2)", "!1*5+2",
            "9999*9999*9999", "(0-9999)*9999*22+22", "1=1=1|1", "2*(3+4)", "0-1&1", "3-!0", "1|0&0", "0&0|1", "2+3=5&1",
            "(1<2)+(2<3)", "8/2*3", "t", "w+3",
            "2<2", "2>2", "2=3", "3=2", "0000+0", "0&0", "5&7", "5|7"};
        int[] want = {
            7, 3, -3, -3, 0, 1, 3, 2, 1, 0, 1, 0, 1,
            1, 1, 0, 1, 0, 1, 1, 1, 0, 2, 1, 0, 2,
            9999 * 9999 * 9999, -9999 * 9999 * 22 + 22, BAD, 14, 1, 2, 1, 1, 1,
            2, 12, 0, 3,
            0, 0, 0, 0, 0, 0, 1, 1};
        for (int i = 0; i < texts.length; i++) {
            if (want[i] != BAD) {
                due("fee " + texts[i], fee(texts[i]), want[i]);
            }
        }
        // the least int by -1
        RoofWar x = new RoofWar();
        reads(x, "fee (8192*8192*32)/(0-1)");
        due("least int by -1", x.fee(), Integer.MIN_VALUE);
    }

    private static void sheets() {
        RoofWar x = new RoofWar();
        due("sheet 4", x.sheet(4, 0, 1), BAD);
        due("sheet -1", x.sheet(-1, -1, 1), BAD);
        due("sort 2", x.sheet(0, 2, 1), BAD);
        due("sort -2", x.sheet(0, -2, 1), BAD);
        due("sort 2, below 0", x.sheet(0, 2, -1), BAD);
        due("places 25", x.sheet(0, 0, 25), BAD);
        due("places -1", x.sheet(0, 1, -1), SIZE);
        due("places least", x.sheet(0, 1, Integer.MIN_VALUE), SIZE);
        due("missing, n any", x.sheet(0, -1, 25), 0);
        due("missing, n below 0", x.sheet(0, -1, -7), 0);
        due("mark missing", x.mark(0, 0, 0), NOTHING);
        due("mark sheet 4", x.mark(4, 0, 0), BAD);
        due("mark sheet -1", x.mark(-1, 0, 0), BAD);
        due("sheet of 24", x.sheet(0, 0, 24), 24);
        due("mark 24", x.mark(0, 24, 0), INDEX);
        due("mark -1", x.mark(0, -1, NONE), INDEX);
        due("mark NONE in shorts", x.mark(0, 0, NONE), KIND);
        due("mark shorts", x.mark(0, 0, 65535), 1);
        due("mark shorts", x.mark(0, 1, 32768), 1);
        due("mark shorts", x.mark(0, 2, 65536 + 5), 1);
        x.lay(0, 2, 0);
        due("item -1", x.item(0, 0), -1);
        due("item -32768", x.item(0, 1), -32768);
        due("item 5", x.item(0, 2), 5);
        due("item 0", x.item(0, 23), 0);
        due("sheet again", x.sheet(0, 1, 3), 3);
        due("mark floats 99999", x.mark(0, 0, 99999), 1);
        due("mark floats -99999", x.mark(0, 1, -99999), 1);
        due("mark floats 100000", x.mark(0, 0, 100000), BAD);
        due("mark floats -100000", x.mark(0, 0, -100000), BAD);
        due("mark floats beyond", x.mark(0, 3, 100000), INDEX);
        due("mark no number", x.mark(0, 2, NONE), 1);
        x.lay(1, 2, 0);
        due("item", x.item(1, 0), 99999);
        due("item", x.item(1, 1), -99999);
        due("item no number", x.item(1, 2), KIND);
        due("item 3", x.item(1, 3), INDEX);
        due("item -1", x.item(1, -1), INDEX);
        due("the row of the slot stays", x.item(0, 0), -1);
        x.sheet(0, 1, 3);
        x.lay(1, 2, 0);
        due("all 0 again", x.item(1, 2), 0);
        due("empty sheet", x.sheet(2, 1, 0), 0);
        due("mark in an empty one", x.mark(2, 0, 0), INDEX);
    }

    private static void pourAndReads() {
        RoofWar x = new RoofWar();
        due("pour sheet 4", x.pour(4), BAD);
        due("pour sheet -1", x.pour(-1), BAD);
        due("pour missing", x.pour(0), NOTHING);
        due("reads sheet 4", x.reads(4), BAD);
        due("reads sheet -1", x.reads(-1), BAD);
        due("reads missing", x.reads(0), NOTHING);
        for (int r = 0; r < 5; r++) {
            x.roof(0, 1, 50, r);
        }
        x.sheet(0, 1, 4);
        x.mark(0, 0, -3);
        x.mark(0, 1, 300);
        x.mark(0, 2, NONE);
        x.mark(0, 3, 50);
        due("pour", x.pour(0), 2);
        int[] leaks = {0, 99, 50, 50, 50};
        for (int r = 0; r < 5; r++) {
            due("poured " + r, x.told(r, 2), leaks[r]);
        }
        due("pour again", x.pour(0), 0);
        x.sheet(1, 0, 24);
        due("pour more places than roofs", x.pour(1), 4);
        due("reads", x.reads(1), 1);
        for (int r = 0; r < 5; r++) {
            x.mark(1, r, r);
        }
        due("reads beyond the roofs", x.reads(1), 5);
        x.sheet(2, 1, 7);
        for (int k = 0; k < 7; k++) {
            x.mark(2, k, NONE);
        }
        due("reads no numbers", x.reads(2), NONE);
        x.mark(2, 3, 3);
        due("reads one right number", x.reads(2), NONE);
        x.mark(2, 6, 6);
        due("reads a number that is no roof's", x.reads(2), 6);
        x.sheet(3, 0, 1);
        due("reads none", x.reads(3), NONE);
        x.sheet(3, 0, 0);
        due("reads no places", x.reads(3), NONE);
    }

    private static void copy() {
        RoofWar x = new RoofWar();
        due("copy from 4", x.copy(4, 0, 0, 0, 0), BAD);
        due("copy to -1", x.copy(0, 0, -1, 0, 0), BAD);
        due("copy from missing", x.copy(0, 0, 1, 0, 0), NOTHING);
        x.sheet(0, 0, 6);
        due("copy to missing", x.copy(0, 9, 1, 9, 9), NOTHING);
        x.sheet(1, 1, 3);
        due("copy other sort, too many", x.copy(0, 9, 1, 9, 9), KIND);
        x.sheet(1, 0, 3);
        for (int k = 0; k < 6; k++) {
            x.mark(0, k, k + 1);
        }
        due("copy too many for to", x.copy(0, 0, 1, 0, 4), INDEX);
        due("copy too many for from", x.copy(1, 1, 0, 0, 3), INDEX);
        due("copy place -1", x.copy(0, -1, 1, 0, 1), INDEX);
        due("copy at -1", x.copy(0, 0, 1, -1, 1), INDEX);
        due("copy many -1", x.copy(0, 1, 1, 1, -1), INDEX);
        due("copy place 7, none", x.copy(0, 7, 1, 0, 0), INDEX);
        due("copy all ends", x.copy(0, 6, 1, 3, 0), 0);
        due("copy great numbers", x.copy(0, Integer.MAX_VALUE, 1, 0, Integer.MAX_VALUE), INDEX);
        due("copy", x.copy(0, 1, 1, 0, 3), 3);
        x.lay(0, 2, 1);
        for (int k = 0; k < 3; k++) {
            due("copied " + k, x.item(0, k), k + 2);
        }
        due("copy in itself", x.copy(0, 0, 0, 2, 4), 4);
        int[] want = {1, 2, 1, 2, 3, 4};
        x.lay(0, 2, 0);
        for (int k = 0; k < 6; k++) {
            due("as they were " + k, x.item(0, k), want[k]);
        }
        due("copy down in itself", x.copy(0, 1, 0, 0, 5), 5);
        x.lay(0, 2, 0);
        due("as they were, down", x.item(0, 4), 4);
        x.sheet(2, 1, 2);
        x.sheet(3, 1, 2);
        x.mark(2, 0, NONE);
        x.copy(2, 0, 3, 1, 1);
        x.lay(0, 2, 3);
        due("no number copied", x.item(0, 1), KIND);
    }

    private static void slots() {
        RoofWar x = new RoofWar();
        x.roof(4, 2, 0, 0);
        x.sheet(0, 0, 2);
        due("lay slot 5", x.lay(5, 0, 0), BAD);
        due("lay slot -1", x.lay(-1, 0, 0), BAD);
        due("lay thing 4", x.lay(0, 4, 0), BAD);
        due("lay thing -1", x.lay(0, -1, 0), BAD);
        due("lay roof 1", x.lay(0, 1, 1), BAD);
        due("lay roof -1", x.lay(0, 1, -1), BAD);
        due("lay sheet 4", x.lay(0, 2, 4), BAD);
        due("lay sheet -1", x.lay(0, 2, -1), BAD);
        due("lay missing", x.lay(0, 2, 1), NOTHING);
        due("ask nothing", x.ask(0, 0), NOTHING);
        due("item nothing", x.item(0, 0), NOTHING);
        due("rest nothing", x.rest(0, 0), NOTHING);
        due("lay a roof", x.lay(0, 1, 0), 0);
        due("rest of a roof", x.rest(0, 0), KIND);
        due("item of a roof", x.item(0, 99), KIND);
        due("ask as roof", x.ask(0, 0), 22);
        due("ask as dome", x.ask(0, 2), 22);
        due("ask as cupola", x.ask(0, 4), 22);
        due("ask as thatch", x.ask(0, 1), KIND);
        x.turns(0, 1);
        x.set(0, 1, 9);
        due("as it was then", x.ask(0, 4), 22);
        due("not as it is", x.ask(0, 1), KIND);
        due("lay a sheet", x.lay(0, 2, 0), 1);
        due("ask of a sheet", x.ask(0, 0), KIND);
        due("rest of a sheet", x.rest(0, 1), KIND);
        due("lay a number", x.lay(0, 3, -17), 2);
        due("ask of a number", x.ask(0, 0), KIND);
        due("item of a number", x.item(0, 0), KIND);
        due("rest", x.rest(0, 5), -2);
        due("rest by below 0", x.rest(0, -5), -2);
        due("rest by 0", x.rest(0, 0), NO);
        due("lay the least int", x.lay(0, 3, Integer.MIN_VALUE), 3);
        due("rest by -1", x.rest(0, -1), 0);
        due("lay nothing, k any", x.lay(0, 0, -99), 3);
        due("nothing again", x.rest(0, 1), NOTHING);
        due("ask slot 5", x.ask(5, 0), BAD);
        due("ask slot -1", x.ask(-1, 0), BAD);
        due("ask kind 6", x.ask(0, 6), BAD);
        due("ask kind -1", x.ask(0, -1), BAD);
        due("item slot 5", x.item(5, 0), BAD);
        due("item slot -1", x.item(-1, 0), BAD);
        due("rest slot 5", x.rest(5, 1), BAD);
        due("rest slot -1", x.rest(-1, 1), BAD);
    }

    private static void tellAndCheck() {
        RoofWar x = new RoofWar();
        for (int i = 1; i <= 60; i++) {
            due("tell " + i, x.tell(i), i);
        }
        due("tell too many", x.tell(0), FULL);
        due("waiting", x.count(6), 60);
        due("check without an image", x.check(1), NO);
        due("none wait", x.count(6), 0);
        x.tell(1);
        due("check 0", x.check(0), BAD);
        due("none wait", x.count(6), 0);
        x.tell(1);
        due("check 31", x.check(31), BAD);
        due("none wait", x.count(6), 0);

        for (int n = 1; n <= 30; n += 7) {
            x = new RoofWar();
            int[] nights = nightsKept(x);
            int z = x.count(8);
            tellAll(x, nights, 2 * n, -1);
            due("check " + n, x.check(n), 0);
            due("none wait", x.count(6), 0);
            tellAll(x, nights, 2 * n - 1, -1);
            due("one is missing", x.check(n), 2 * n);
            tellAll(x, nights, 2 * n, 2 * n - 1);
            due("the last is not", x.check(n), 2 * n);
            tellAll(x, nights, 2 * n, 2 * n - 2);
            due("the last but one is not", x.check(n), 2 * n - 1);
            tellAll(x, nights, 2 * n, 0);
            due("the first is not", x.check(n), 1);
            if (n < 30) {
                tellAll(x, nights, 2 * n, -1);
                x.tell(0);
                due("one too many", x.check(n), 2 * n + 1);
            }
            due("all are missing", x.check(n), 1);
            due("nothing changed", x.count(8), z);
        }
        x = new RoofWar();
        tellAll(x, nightsKept(x), 60, -1);
        due("check 30", x.check(30), 0);
    }

    /** Keeps an image; STOLEN and LEAK of all behind each of 30 nights from there on. */
    private static int[] nightsKept(RoofWar x) {
        x.deal(6);
        x.rule(0, 99);
        x.keep();
        int[] nights = new int[60];
        for (int i = 0; i < 30; i++) {
            x.nights(1);
            nights[2 * i] = x.hill(0);
            nights[2 * i + 1] = x.hill(5);
        }
        return nights;
    }

    private static void tellAll(RoofWar x, int[] nights, int many, int otherwise) {
        for (int i = 0; i < many; i++) {
            x.tell(i == otherwise ? nights[i] + 1 : nights[i]);
        }
    }

    private static void checkAtTheLastNights() {
        RoofWar x = new RoofWar();
        for (int i = 0; i < 99; i++) {
            x.nights(100);
        }
        x.nights(98);
        x.roof(5, 1, 7, 0);
        x.rule(1, 0);
        x.keep();
        x.tell(0);
        x.tell(7);
        due("one night is left", x.check(30), 0);
        x.tell(0);
        x.tell(7);
        x.tell(0);
        x.tell(7);
        due("two nights are too many", x.check(30), 3);
        x.nights(1);
        x.keep();
        due("no night is left", x.check(30), 0);
        x.tell(0);
        due("one too many", x.check(30), 1);
    }

    private static void images() {
        RoofWar x = new RoofWar();
        due("back without an image", x.back(), NO);
        x.roof(2, 3, 4, 5);
        reads(x, "fee 11");
        reads(x, "spite 1");
        due("keep", x.keep(), 1);
        for (int again = 0; again < 2; again++) {
            x.roof(1, 1, 1, 1);
            x.turns(0, 0);
            x.set(0, 1, 9);
            x.set(0, 2, 9);
            x.moves(0, 6);
            x.lodges(3, 0, 0);
            x.lodges(3, 1, 9);
            x.rule(0, 99);
            x.rule(1, 98);
            x.rule(2, 100);
            x.nights(9);
            x.seed(5);
            x.trim(0);
            reads(x, "fee 12");
            reads(x, "spite 50");
            x.sheet(0, 0, 5);
            x.lay(0, 3, 8);
            x.tell(6);
            x.feed(1, 2, 3);
            int[] of = {1, 0, 12, 12, 40, 2, 1 + again, 12, 1};
            due("back", x.back(), 1);
            for (int i = 0; i < of.length; i++) {
                due("back: count " + i, x.count(i), of[i]);
            }
            for (int i = 0; i < 3; i++) {
                due("back: hill " + i, x.hill(i), 0);
            }
            int[] roof = {2, 3, 4, 5};
            for (int i = 0; i < 4; i++) {
                due("back: told " + i, x.told(0, i), roof[i]);
            }
            due("back: people", x.house(3, 0), 3);
            due("back: watch", x.house(3, 1), 0);
            due("back: no roof", x.house(6, 2), NONE);
            due("back: roof", x.house(5, 2), 0);
            due("back: fee", x.fee(), 11);
            due("back: why", x.why(0), 1);
            due("the sheet stays", x.reads(0), 0);
            due("the slot stays", x.rest(0, 5), 3);
        }
        x.roof(1, 1, 1, 1);
        due("keep two", x.keep(), 2);
        due("back two", x.back(), 2);
    }

    private static void checkByTheTextsOfTheImage() {
        RoofWar x = new RoofWar();
        reads(x, "spite 3");
        x.roof(0, 1, 10, 0);
        x.rule(0, 0);
        x.keep();
        reads(x, "spite 40");
        x.rule(1, 0);
        x.moves(0, 3);
        x.tell(1);
        x.tell(13);
        due("by the image", x.check(1), 0);
    }

    private static void count() {
        RoofWar x = new RoofWar();
        x.deal(3);
        x.nights(4);
        x.rule(0, 7);
        x.rule(1, 8);
        x.rule(2, 9);
        reads(x, "fee t");
        x.tell(1);
        x.tell(1);
        x.feed(0, 0, 0);
        x.seed(77);
        int[] want = {3, 4, 7, 8, 9, 1, 2, 12, 77};
        for (int i = 0; i < want.length; i++) {
            due("count " + i, x.count(i), want[i]);
        }
        for (int v : new int[] {-1, 9, Integer.MIN_VALUE, Integer.MAX_VALUE}) {
            due("count " + v, x.count(v), BAD);
        }
    }

    public static void main(String[] args) {
        newObject();
        roof();
        told();
        asAndTurns();
        setAndMoves();
        houses();
        ruleAndSeed();
        deal();
        nights();
        watchAndRainAtTheirEdges();
        hillAndLoot();
        steals();
        fits();
        prize();
        behind();
        gone();
        guardAndBecomes();
        like();
        feeAndFine();
        feedAndTrim();
        faults();
        textsThatCount();
        sums();
        sheets();
        pourAndReads();
        copy();
        slots();
        tellAndCheck();
        checkAtTheLastNights();
        images();
        checkByTheTextsOfTheImage();
        count();
        end();
    }
}
