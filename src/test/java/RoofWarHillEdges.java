// The edges that ../shared/DOC.md names in sections 1 to 3 and promises 1 to 23, sentence by sentence, in its order.
public final class RoofWarHillEdges extends Due {
    private static final String[] KINDS = {"ROOF", "THATCH", "DOME", "HAY", "CUPOLA", "PAINTED"};

    private static void is(String call, boolean holds) {
        due(call, holds ? 1 : 0, 1);
    }

    // ---- terms ahead of the sections

    /** "/ cuts towards 0." */
    private static void cuts() {
        RoofWar x = new RoofWar();
        int[][] rests = {{17, 5, 2}, {-17, 5, -2}, {17, -5, 2}, {-17, -5, -2}, {4, 5, 4}, {-4, 5, -4}};
        for (int[] r : rests) {
            x.lay(0, 3, r[0]);
            due("rest of " + r[0] + " by " + r[1], x.rest(0, r[1]), r[2]);
        }
        due("7 / 2", fee("7/2"), 3);
        due("-7 / 2", fee("(0-7)/2"), -3);
        due("7 / -2", fee("7/(0-2)"), -3);
        due("-7 / -2", fee("(0-7)/(0-2)"), 3);
        due("-1 / 2", fee("(0-1)/2"), 0);
    }

    /** "Sets of ROOFS are told by bits." */
    private static void sets() {
        RoofWar x = new RoofWar();
        due("set of none", x.loot(0, 0), 0);
        for (int h = 0; h < 12; h++) {
            x.roof(5, 1, 0, h);
        }
        due("bits 6 to 11", x.loot(0, 0), 4032);
        due("bits 0 to 5", x.loot(1, 0), 63);
    }

    // ---- section 1

    /** "HOUSES 0 .. 11 (0 .. 5 of TOWN 0, 6 .. 11 of TOWN 1)". */
    private static void towns() {
        for (int h = 0; h < 12; h++) {
            RoofWar x = new RoofWar();
            x.roof(0, 2, 0, h);
            int town = h <= 5 ? 0 : 1;
            due("dry in the town of house " + h, x.hill(3 + town), 2);
            due("dry in the other town than of house " + h, x.hill(4 - town), 0);
            due("loot of the town of house " + h, x.loot(town, 0), 0);
            due("loot of the other town than of house " + h, x.loot(1 - town, 0), 1);
            due("home of the other town than of house " + h, x.loot(1 - town, 1), town == 0 ? 6 : 0);
            due("fits in the town of house " + h, x.fits(town, -1), 2);
        }
    }

    /** "each with PEOPLE 0 .. 9 (3 at first) and WATCH 0 .. 100 (0 at first)". */
    private static void housesAtTheirBounds() {
        RoofWar x = new RoofWar();
        for (int h = 0; h < 12; h++) {
            due("people of " + h + " at first", x.house(h, 0), 3);
            due("watch of " + h + " at first", x.house(h, 1), 0);
            due("people 9 of " + h, x.lodges(h, 0, 9), 3);
            due("people 10 of " + h, x.lodges(h, 0, 10), BAD);
            due("people 0 of " + h, x.lodges(h, 0, 0), 9);
            due("people -1 of " + h, x.lodges(h, 0, -1), BAD);
            due("watch 100 of " + h, x.lodges(h, 1, 100), 0);
            due("watch 101 of " + h, x.lodges(h, 1, 101), BAD);
            due("watch 0 of " + h, x.lodges(h, 1, 0), 100);
            due("watch -1 of " + h, x.lodges(h, 1, -1), BAD);
            due("people of " + h + " then", x.house(h, 0), 0);
            due("watch of " + h + " then", x.house(h, 1), 0);
        }
        due("neighbours keep theirs", x.lodges(4, 0, 7), 0);
        due("house 3", x.house(3, 0), 0);
        due("house 5", x.house(5, 0), 0);
    }

    /** "ROOFS, 12 at most, numbered from 0: SIZED 1 .. 9, LEAK 0 .. 99, over a HOUSE (one of its own), and of KINDS". */
    private static void roofsAtTheirBounds() {
        RoofWar x = new RoofWar();
        due("sized 1, leak 0, kind 0, house 0", x.roof(0, 1, 0, 0), 0);
        due("sized 9, leak 99, kind 5, house 11", x.roof(5, 9, 99, 11), 1);
        due("sized 0", x.roof(0, 0, 0, 1), BAD);
        due("sized 10", x.roof(0, 10, 0, 1), BAD);
        due("leak -1", x.roof(0, 1, -1, 1), BAD);
        due("leak 100", x.roof(0, 1, 100, 1), BAD);
        due("kind -1", x.roof(-1, 1, 0, 1), BAD);
        due("kind 6", x.roof(6, 1, 0, 1), BAD);
        due("house -1", x.roof(0, 1, 0, -1), BAD);
        due("house 12", x.roof(0, 1, 0, 12), BAD);
        due("a house that has a roof", x.roof(0, 1, 0, 11), NO);
        for (int r = 2; r < 12; r++) {
            due("roof " + r, x.roof(0, 1, 0, r - 1), r);
        }
        due("twelve of them", x.count(0), 12);
        for (int h = 0; h < 12; h++) {
            due("a thirteenth over " + h, x.roof(0, 1, 0, h), NO);
        }
        due("still twelve", x.count(0), 12);
        due("no thirteenth is dealt", x.deal(1), 0);
        due("roof 11 is told", x.told(11, 3), 10);
        due("roof 12 is none", x.told(12, 3), BAD);
    }

    /** "STRENGTH of the gang of each TOWN 0 .. 99 (12 at first), RAIN 0 .. 100 (40)." */
    private static void rulesAtTheirBounds() {
        RoofWar x = new RoofWar();
        int[] first = {12, 12, 40};
        int[] most = {99, 99, 100};
        for (int what = 0; what < 3; what++) {
            due("rule " + what + " at first", x.count(2 + what), first[what]);
            due("rule " + what + " too large", x.rule(what, most[what] + 1), BAD);
            due("rule " + what + " below 0", x.rule(what, -1), BAD);
            due("rule " + what + " most", x.rule(what, most[what]), first[what]);
            due("rule " + what + " least", x.rule(what, 0), most[what]);
            due("rule " + what + " then", x.count(2 + what), 0);
        }
        due("STRENGTH of TOWN 0 alone", x.rule(0, 7), 0);
        due("not of TOWN 1", x.count(3), 0);
    }

    /** "STOLEN, CAUGHT, WET are 0 at first; THE NIGHT is 0 at first, 9999 at most." */
    private static void theNight() {
        RoofWar x = atNight(9949);
        due("night 9949", x.count(1), 9949);
        x.roof(0, 1, 0, 0);
        x.rule(0, 0);
        due("up to 9999: the roof is carried once", x.nights(100), 1);
        due("night 9999", x.count(1), 9999);
        int z = x.count(8);
        int wet = x.hill(2);
        x.rule(0, 12);
        due("no night is left", x.nights(1), 0);
        due("nor of many", x.nights(100), 0);
        due("night 9999 still", x.count(1), 9999);
        due("no draws", x.count(8), z);
        due("no rain", x.hill(2), wet);
        due("too few are refused all the same", x.nights(0), BAD);
        x = atNight(9998);
        drawn = x.count(8);
        due("one night is left", x.nights(2), 0);
        due("night 9999", x.count(1), 9999);
        draw();
        due("one night's draw", x.count(8), drawn);
    }

    /** "WEIGHS .. COVERS .. WORTH .." of every SIZED; "half (cut)". */
    private static void kindsBySize() {
        int[][] weighs = {
            {2, 4, 6, 8, 10, 12, 14, 16, 18}, {1, 2, 3, 4, 5, 6, 7, 8, 9}, {4, 8, 12, 16, 20, 24, 28, 32, 36},
            {1, 2, 3, 4, 5, 6, 7, 8, 9}, {2, 6, 10, 14, 18, 22, 26, 30, 34}, {1, 1, 1, 1, 1, 1, 1, 1, 1}};
        int[][] covers = {
            {1, 2, 3, 4, 5, 6, 7, 8, 9}, {1, 2, 3, 4, 5, 6, 7, 8, 9}, {4, 5, 6, 7, 8, 9, 10, 11, 12},
            {0, 1, 1, 2, 2, 3, 3, 4, 4}, {4, 5, 6, 7, 8, 9, 10, 11, 12}, {0, 0, 0, 0, 0, 0, 0, 0, 0}};
        int[][] worth = {
            {1, 2, 3, 4, 5, 6, 7, 8, 9}, {5, 6, 7, 8, 9, 10, 11, 12, 13}, {29, 28, 27, 26, 25, 24, 23, 22, 21},
            {10, 12, 14, 16, 18, 20, 22, 24, 26}, {23, 22, 21, 20, 19, 18, 17, 16, 15}, {2, 2, 2, 2, 2, 2, 2, 2, 2}};
        RoofWar x = new RoofWar();
        x.roof(0, 1, 0, 0);
        for (int kind = 0; kind < 6; kind++) {
            x.turns(0, kind);
            for (int i = 0; i < 9; i++) {
                x.set(0, 1, i + 1);
                String one = KINDS[kind] + " sized " + (i + 1);
                due(one + " weighs", x.told(0, 4), weighs[kind][i]);
                due(one + " covers", x.told(0, 5), covers[kind][i]);
                due(one + " is worth", x.told(0, 7), worth[kind][i]);
            }
        }
    }

    /** "DRIPS: ROOF: a tenth (cut) of LEAK. THATCH: as ROOF, and 2. HAY: twice as THATCH. CUPOLA: 1." */
    private static void kindsByLeak() {
        int[] leaks = {0, 9, 10, 19, 20, 98, 99};
        int[][] drips = {
            {0, 0, 1, 1, 2, 9, 9}, {2, 2, 3, 3, 4, 11, 11}, {0, 0, 1, 1, 2, 9, 9},
            {4, 4, 6, 6, 8, 22, 22}, {1, 1, 1, 1, 1, 1, 1}, {0, 0, 1, 1, 2, 9, 9}};
        RoofWar x = new RoofWar();
        x.roof(0, 1, 0, 0);
        for (int kind = 0; kind < 6; kind++) {
            x.turns(0, kind);
            for (int i = 0; i < leaks.length; i++) {
                x.set(0, 2, leaks[i]);
                due(KINDS[kind] + " leak " + leaks[i] + " drips", x.told(0, 6), drips[kind][i]);
            }
        }
    }

    /** "DRY are, of PEOPLE of a HOUSE with a ROOF, as many as that COVERS, or all." */
    private static void dry() {
        RoofWar x = new RoofWar();
        due("no roof", x.house(4, 3), 0);
        x.roof(0, 3, 0, 4);
        int[] people = {0, 2, 3, 4, 9};
        int[] want = {0, 2, 3, 3, 3};
        for (int i = 0; i < people.length; i++) {
            x.lodges(4, 0, people[i]);
            due("dry of " + people[i] + " under a roof of 3", x.house(4, 3), want[i]);
            due("dry of the town", x.hill(3), want[i]);
        }
        x.turns(0, 5);
        due("under painted sheet", x.house(4, 3), 0);
        x.turns(0, 2);
        x.set(0, 1, 9);
        due("a dome of 12 over 9", x.house(4, 3), 9);
        x.turns(0, 3);
        x.set(0, 1, 1);
        due("hay of 0 over 9", x.house(4, 3), 0);
        due("the house next to it", x.house(5, 3), 0);
    }

    /** "A TOWN may CARRY a ROOF that is over a HOUSE of the other TOWN and WEIGHS its STRENGTH or less". */
    private static void mayCarry() {
        int[] weighs = {8, 4, 16, 4, 14, 1};
        for (int kind = 0; kind < 6; kind++) {
            for (int town = 0; town < 2; town++) {
                RoofWar x = new RoofWar();
                x.roof(kind, 4, 0, town == 0 ? 6 : 5);
                x.rule(1 - town, 99);
                x.rule(town, weighs[kind]);
                due(KINDS[kind] + " weighs as much as TOWN " + town + " is strong", x.loot(town, 0), 1);
                x.rule(town, weighs[kind] - 1);
                due(KINDS[kind] + " weighs one more", x.loot(town, 0), 0);
                due(KINDS[kind] + " is not carried", x.steals(0), NO);
                due(KINDS[kind] + " is no loot of its own town", x.loot(1 - town, 0), 0);
            }
        }
    }

    /** "its HOME is the least of its HOUSES that has no ROOF." */
    private static void home() {
        RoofWar x = new RoofWar();
        for (int h = 0; h < 6; h++) {
            due("home of 0", x.loot(0, 1), h);
            due("home of 1", x.loot(1, 1), 6 + h);
            x.roof(0, 9, 0, h);
            x.roof(0, 9, 0, 6 + h);
        }
        due("no home of 0", x.loot(0, 1), NONE);
        due("no home of 1", x.loot(1, 1), NONE);
    }

    /** "SPITE of a ROOF: what spite gives, held within 0 .. 99 (without a TEXT: 5)"; "LEAK is more by its SPITE (99 at most)". */
    private static void spite() {
        int[][] plain = {{0, 5}, {93, 98}, {94, 99}, {95, 99}, {99, 99}};
        for (int[] p : plain) {
            RoofWar x = new RoofWar();
            x.roof(0, 1, p[0], 0);
            x.steals(0);
            due("leak " + p[0] + " in spite, stolen", x.told(0, 2), p[1]);
            x = new RoofWar();
            x.roof(0, 1, p[0], 0);
            x.nights(1);
            due("leak " + p[0] + " in spite, by night", x.told(0, 2), p[1]);
            due("STOLEN is 1 more", x.hill(0), 1);
        }
        String[] texts = {"0-1", "0", "1", "98", "99", "100", "0-9999*9999", "8192*8192*32-1", "8192*8192*32", "l", "l*0-l"};
        int[] want = {1, 1, 2, 99, 99, 99, 1, 99, 1, 2, 1};
        for (int i = 0; i < texts.length; i++) {
            RoofWar x = new RoofWar();
            x.roof(0, 1, 1, 0);
            reads(x, "spite " + texts[i]);
            x.steals(0);
            due("leak 1 by spite " + texts[i], x.told(0, 2), want[i]);
        }
        RoofWar x = atNight(3);
        x.roof(0, 6, 20, 0);
        x.rule(0, 0);
        reads(x, "spite l/10+s+n");
        due("carried by night", x.nights(1), 1);
        due("by leak as it was there, size and the night ahead", x.told(0, 2), 20 + 2 + 6 + 3);
        reads(x, "spite 0");
        x.rule(0, 12);
        due("back", x.steals(0), 0);
        due("0 is 0 in any night", x.told(0, 2), 31);
    }

    // ---- section 2

    /** "the TOWN that is the rest of THE NIGHT by 2, then the other one". */
    private static void whoGoesFirst() {
        RoofWar x = new RoofWar();
        x.roof(0, 1, 0, 6);
        drawn = 1;
        // over which house ahead of the night and behind it, and how often it was carried: twice is there and back
        int[][] nights = {{6, 6, 2}, {6, 0, 1}, {0, 6, 1}, {0, 0, 2}, {6, 6, 2}, {6, 0, 1}, {0, 6, 1}, {11, 0, 1}, {5, 6, 1}};
        for (int n = 0; n < nights.length; n++) {
            x.moves(0, nights[n][0]);
            due("stolen in night " + n, x.nights(1), nights[n][2]);
            due("over which house behind night " + n, x.told(0, 3), nights[n][1]);
            for (int i = 0; i < 2 * nights[n][2] + 1; i++) {
                draw();
            }
            due("draws of night " + n, x.count(8), drawn);
        }
    }

    /** "if it may CARRY some, and has a HOME, two draws". */
    private static void noDrawsOfATown() {
        RoofWar x = new RoofWar();
        due("no roofs", x.nights(1), 0);
        due("one draw, for rain", x.count(8), 1103527590);
        x = new RoofWar();
        x.roof(0, 7, 0, 0);
        due("a home, but too heavy", x.nights(1), 0);
        due("one draw", x.count(8), 1103527590);
        x = new RoofWar();
        fills(x, 1);
        x.roof(0, 1, 0, 0);
        due("may carry, but no home", x.nights(1), 0);
        due("one draw", x.count(8), 1103527590);
        x = new RoofWar();
        x.roof(0, 1, 0, 0);
        x.lodges(0, 1, 100);
        due("caught", x.nights(1), 0);
        due("three draws", x.count(8), 662824084);
    }

    /** "of those, by numbers, the one that is the rest of the first by how many they are (from 0 on)". */
    private static void whichIsDrawn() {
        for (int many = 1; many <= 5; many++) {
            int seen = 0;
            for (int seed = 0; seed < 40; seed++) {
                RoofWar x = new RoofWar();
                x.roof(0, 7, 0, 0);
                for (int r = 1; r <= many; r++) {
                    x.roof(0, 6, 0, 6 - r);
                }
                x.rule(0, 0);
                x.seed(seed * 65537);
                drawn = seed * 65537;
                int place = draw() % many;
                x.nights(1);
                due("of " + many + " the one at place " + place, x.told(1 + place, 3), 6);
                seen |= 1 << place;
            }
            due("each of " + many + " was drawn", seen, (1 << many) - 1);
        }
    }

    /** "if the rest of the second by 100 is below WATCH of the HOUSE over which it is, CAUGHT is 1 more, else it is CARRIED." */
    private static void watch() {
        int none = 0;
        int all = 0;
        for (int seed = 0; seed < 600; seed++) {
            drawn = seed * 1000003;
            draw();
            int luck = draw() % 100;
            none = luck == 0 ? none + 1 : none;
            all = luck == 99 ? all + 1 : all;
            for (int w : new int[] {0, luck, Math.min(99, luck + 1), 100}) {
                RoofWar x = new RoofWar();
                x.roof(0, 2, 7, 3);
                x.lodges(3, 1, w);
                x.lodges(6, 1, 100 - w);
                x.seed(seed * 1000003);
                int caught = luck < w ? 1 : 0;
                due("stolen: watch " + w + ", draw " + luck, x.nights(1), 1 - caught);
                due("caught: watch " + w + ", draw " + luck, x.hill(1), caught);
                due("over: watch " + w + ", draw " + luck, x.told(0, 3), caught == 1 ? 3 : 6);
                due("leak: watch " + w + ", draw " + luck, x.told(0, 2), caught == 1 ? 7 : 12);
            }
        }
        is("draws 0 and 99 were among them", none > 0 && all > 0);
    }

    /** "A draw; if its rest by 100 is below RAIN: WET is more by what all ROOFS DRIP .. and 20 for each HOUSE with PEOPLE .." */
    private static void rain() {
        int none = 0;
        int all = 0;
        for (int seed = 0; seed < 600; seed++) {
            drawn = seed * 1000003;
            int luck = draw() % 100;
            none = luck == 0 ? none + 1 : none;
            all = luck == 99 ? all + 1 : all;
            for (int r : new int[] {0, luck, luck + 1, 100}) {
                RoofWar x = new RoofWar();
                x.rule(2, r);
                x.seed(seed * 1000003);
                x.nights(1);
                due("wet: rain " + r + ", draw " + luck, x.hill(2), luck < r ? 240 : 0);
            }
        }
        is("draws 0 and 99 were among them", none > 0 && all > 0);
        RoofWar x = new RoofWar();
        x.rule(2, 100);
        x.rule(0, 0);
        x.roof(0, 6, 9, 0);
        x.roof(5, 1, 35, 6);
        x.roof(3, 9, 99, 7);
        x.lodges(0, 0, 0);
        x.lodges(1, 0, 0);
        x.lodges(2, 0, 1);
        x.lodges(3, 0, 9);
        x.nights(1);
        due("the stolen roof leaks more when it rains", x.told(0, 2), 14);
        // dripping: 1 from 14, 3 from 35, 22 of the hay; without a roof and with people: houses 2 .. 5 and 9 .. 11
        due("wet of both towns", x.hill(2), 1 + 3 + 22 + 20 * 7);
        x.lodges(6, 0, 0);
        x.rule(1, 0);
        x.nights(1);
        due("wet is more", x.hill(2), 166 + 166);
    }

    /** "A draw: z becomes z * 1103515245 + 12345 (an int); it gives z >>> 8." */
    private static void draws() {
        int[] seeds = {1, 0, -1, Integer.MAX_VALUE, Integer.MIN_VALUE};
        int[] z = {1103527590, 12345, -1103502900, 1043980748, -2147471303};
        int[] behindFour = {-999580867, -698016724, -396452581, 1751031067, 1449466924};
        int[][] roofs = {{2, 3, 6, 11}, {0, 4, 25, 4}, {1, 4, 29, 9}, {5, 9, 37, 1}, {2, 8, 17, 8}};
        for (int i = 0; i < seeds.length; i++) {
            RoofWar x = new RoofWar();
            due("seed " + seeds[i], x.seed(seeds[i]), 1);
            x.nights(1);
            due("z behind a draw from " + seeds[i], x.count(8), z[i]);
            x.seed(seeds[i]);
            due("deal from " + seeds[i], x.deal(1), 1);
            for (int what = 0; what < 4; what++) {
                due("dealt from " + seeds[i] + " what " + what, x.told(0, what), roofs[i][what]);
            }
            due("z behind a roof from " + seeds[i], x.count(8), behindFour[i]);
        }
    }

    /** "(the next one without a ROOF, round, if it has one)". */
    private static void dealtRound() {
        RoofWar x = new RoofWar();
        x.roof(0, 1, 0, 11);
        x.deal(1);
        due("house 11 has one: round to 0", x.told(1, 3), 0);
        x = new RoofWar();
        x.roof(0, 1, 0, 11);
        x.roof(0, 1, 0, 0);
        x.roof(0, 1, 0, 1);
        x.deal(1);
        due("houses 11, 0, 1 have one: round to 2", x.told(3, 3), 2);
        x = new RoofWar();
        for (int h = 0; h < 12; h++) {
            if (h != 10) {
                x.roof(0, 1, 0, h);
            }
        }
        x.deal(1);
        due("all but 10 have one: nearly round", x.told(11, 3), 10);
    }

    // ---- section 3

    private static void fitsAre(String when, RoofWar x, int town, int... want) {
        for (int k = -1; k < 6; k++) {
            due(when + ": fits " + town + " what " + k, x.fits(town, k), want[k + 1]);
        }
    }

    /** "FITS .. (each over one, or over none) that by which most are DRY .. the least ROOF over its first HOUSE (none behind all)". */
    private static void fits() {
        RoofWar x = new RoofWar();
        fitsAre("no roofs", x, 0, 0, NONE, NONE, NONE, NONE, NONE, NONE);
        x.roof(5, 9, 0, 3);
        fitsAre("a decoy keeps none dry, but none stands behind it", x, 0, 0, 0, NONE, NONE, NONE, NONE, NONE);
        x.turns(0, 0);
        x.lodges(0, 0, 0);
        fitsAre("nobody in the first house", x, 0, 3, NONE, 0, NONE, NONE, NONE, NONE);
        x.lodges(1, 0, 0);
        x.lodges(2, 0, 0);
        x.lodges(3, 0, 0);
        x.lodges(4, 0, 0);
        fitsAre("people in the last house alone", x, 0, 3, NONE, NONE, NONE, NONE, NONE, 0);
        x.roof(5, 1, 0, 1);
        fitsAre("a decoy over the first house", x, 0, 3, 1, NONE, NONE, NONE, NONE, 0);
        x = new RoofWar();
        x.roof(0, 2, 0, 11);
        x.roof(0, 2, 0, 8);
        fitsAre("two alike, from house 6 on", x, 1, 4, 0, 1, NONE, NONE, NONE, NONE);
        fitsAre("none of these is the other town's", x, 0, 0, NONE, NONE, NONE, NONE, NONE, NONE);
        x.moves(0, 2);
        fitsAre("one was moved over the wall", x, 1, 2, 1, NONE, NONE, NONE, NONE, NONE);
        fitsAre("it fits there", x, 0, 2, 0, NONE, NONE, NONE, NONE, NONE);
        x = new RoofWar();
        for (int h = 0; h < 6; h++) {
            x.lodges(h, 0, h + 1);
            x.roof(0, 6 - h, 0, h);
        }
        due("as they are", x.hill(3), 12);
        fitsAre("six, turned round", x, 0, 21, 5, 4, 3, 2, 1, 0);
        x = new RoofWar();
        x.lodges(6, 0, 9);
        x.roof(2, 9, 0, 10);
        x.roof(0, 9, 0, 9);
        fitsAre("all under a dome of 12 are 9: least roof first", x, 1, 12, 0, 1, NONE, NONE, NONE, NONE);
        due("nothing was moved", x.told(0, 3), 10);
    }

    /** "PRIZE .. is most; of several the least." "(below 0: fewer)" "NONE: it has no HOME, or may CARRY none." */
    private static void prize() {
        RoofWar x = new RoofWar();
        due("nothing to carry", x.prize(1, 0), NONE);
        due("nothing to carry, what 1", x.prize(1, 1), NONE);
        x.roof(0, 2, 0, 5);
        x.roof(0, 2, 0, 1);
        due("of two alike the least", x.prize(1, 0), 0);
        due("as many here as there", x.prize(1, 1), 0);
        due("none of its own", x.prize(0, 0), NONE);
        x.lodges(1, 0, 1);
        due("it takes from more", x.prize(1, 0), 0);
        due("2 less 1", x.prize(1, 1), 1);
        x.lodges(5, 0, 0);
        due("1 taken from them weighs more than 0", x.prize(1, 0), 1);
        due("2 less 0", x.prize(1, 1), 2);
        x.lodges(6, 0, 0);
        due("nobody at home", x.prize(1, 0), 1);
        due("0 less 0", x.prize(1, 1), 0);
        x.roof(0, 9, 0, 2);
        due("below 0: fewer", x.prize(1, 1), -3);
        x.turns(0, 5);
        x.turns(1, 5);
        due("decoys, the least", x.prize(1, 0), 0);
        due("0 less 3", x.prize(1, 1), -3);
        x.rule(1, 1);
        due("as heavy as it can", x.prize(1, 0), 0);
        x.rule(1, 0);
        due("too heavy", x.prize(1, 0), NONE);
        x.rule(1, 12);
        fills(x, 1);
        due("no home", x.prize(1, 0), NONE);
        due("no home, what 1", x.prize(1, 1), NONE);
        due("it was only thought", x.told(0, 3), 5);
    }

    /** "(All that follows is only thought, z as it is, without the bound of THE NIGHT: nothing changes.)" */
    private static void withoutTheBound() {
        RoofWar x = atNight(9999);
        x.roof(0, 2, 0, 0);
        x.rule(0, 0);
        x.rule(2, 100);
        int z = x.count(8);
        int wet = x.hill(2);
        due("behind 0", x.behind(0, 5), 0);
        due("behind 1", x.behind(1, 5), 6);
        due("behind 1: wet", x.behind(1, 2), wet + 220);
        due("behind 100: wet", x.behind(100, 2), wet + 22000);
        due("gone", x.gone(0), 1);
        due("guard", x.guard(0, 1, 1), 2);
        due("becomes", x.becomes(0, 1, 0), 0);
        x.rule(1, 3);
        due("becomes a dome, behind n NIGHTS", x.becomes(0, 60, 0), 2);
        x.rule(1, 12);
        x.sheet(0, 0, 2);
        x.mark(0, 1, 6);
        due("like", x.like(0, 1), 2);
        due("z as it was", x.count(8), z);
        due("the night as it was", x.count(1), 9999);
        due("STOLEN as it was", x.hill(0), 0);
        due("over the house as it was", x.told(0, 3), 0);
        reads(x, "spite n-9950");
        x.steals(0);
        due("spite in night 9999", x.told(0, 2), 49);
    }

    /** "BEHIND n NIGHTS: STOLEN; CAUGHT; WET; DRY of TOWN 0; of TOWN 1; over which HOUSE a ROOF is." n 0 .. 100. */
    private static void behind() {
        RoofWar x = new RoofWar();
        due("no roofs: what 4", x.behind(0, 4), 0);
        due("no roofs: what 5", x.behind(0, 5), BAD);
        x.roof(0, 2, 10, 6);
        x.roof(0, 9, 20, 1);
        x.rule(2, 100);
        // night 0: taken and taken back, LEAK 20; night 1: taken, LEAK 25; rain on ten houses without a roof
        int wet = 2 + 2 + 200;
        int[] now = {0, 0, 0, 3, 2, 6, 1};
        int[] one = {2, 0, wet, 3, 2, 6, 1};
        int[] two = {3, 0, 2 * wet, 5, 0, 0, 1};
        for (int what = 0; what < 7; what++) {
            due("behind 0 what " + what, x.behind(0, what), now[what]);
            due("behind 1 what " + what, x.behind(1, what), one[what]);
            due("behind 2 what " + what, x.behind(2, what), two[what]);
        }
        due("what 7: no such roof", x.behind(0, 7), BAD);
        due("n 100", x.behind(100, 6), 1);
        due("n 101", x.behind(101, 6), BAD);
        due("n -1", x.behind(-1, 6), BAD);
        x.deal(10);
        due("what 16: roof 11", x.behind(0, 16), x.told(11, 3));
        due("what 17", x.behind(0, 17), BAD);
        due("z as it is", x.behind(30, 0), x.behind(30, 0));
        x = new RoofWar();
        x.roof(0, 2, 10, 6);
        x.lodges(6, 1, 100);
        x.nights(4);
        due("CAUGHT now", x.behind(0, 1), 4);
        due("CAUGHT behind 3", x.behind(3, 1), 7);
        due("CAUGHT behind 100", x.behind(100, 1), 104);
        due("CAUGHT as it was", x.hill(1), 4);
    }

    /** "GONE of a ROOF: behind how many NIGHTS (1 .. 200) it is in the other TOWN first." "NONE: not by then." */
    private static void gone() {
        RoofWar x = new RoofWar();
        x.roof(0, 1, 0, 6);
        due("taken back in night 0, gone in night 1", x.gone(0), 2);
        x.moves(0, 5);
        due("gone in night 0", x.gone(0), 1);
        x.nights(1);
        x.moves(0, 0);
        due("from TOWN 0 in night 1: taken back", x.gone(0), 2);
        x.moves(0, 11);
        due("from TOWN 1 in night 1", x.gone(0), 1);
        x.lodges(11, 1, 100);
        due("watched for good", x.gone(0), NONE);
        int[] found = {0, 0, 0, 0};
        for (int i = 0; i < 60000 && found[0] * found[1] * found[2] * found[3] == 0; i++) {
            int seed = i * 1000003;
            int night = carriedInNight(seed);
            if (night <= 1 || night >= 199 && night <= 201) {
                int place = night <= 1 ? 0 : night - 198;
                if (found[place] == 0) {
                    found[place] = 1;
                    x = new RoofWar();
                    x.roof(0, 1, 0, 0);
                    x.rule(0, 0);
                    x.lodges(0, 1, 99);
                    x.seed(seed);
                    due("watched by 99, first drawn in night " + night, x.gone(0), night <= 200 ? night : NONE);
                }
            }
        }
        is("1, 199, 200 and 201 are tried", found[0] + found[1] + found[2] + found[3] == 4);
    }

    /** In which night (from 1 on) the second of three draws first is 99, up to 202. */
    private static int carriedInNight(int seed) {
        drawn = seed;
        for (int night = 1; night < 202; night++) {
            draw();
            if (draw() % 100 == 99) {
                return night;
            }
            draw();
        }
        return 202;
    }

    /** "GUARDED .. the one of its HOUSES with WATCH 100 of which now most are DRY in that TOWN behind n NIGHTS; of several the least." */
    private static void guard() {
        RoofWar x = new RoofWar();
        due("no roofs: the least", x.guard(0, 1, 0), 0);
        due("no roofs: none", x.guard(0, 1, 1), 0);
        due("no roofs: the least of TOWN 1", x.guard(1, 60, 0), 6);
        x.roof(0, 1, 0, 0);
        x.roof(0, 3, 0, 4);
        x.rule(0, 0);
        due("the better roof", x.guard(0, 60, 0), 4);
        due("the better roof stays", x.guard(0, 60, 1), 3);
        x.set(0, 1, 3);
        due("of two alike the least", x.guard(0, 60, 0), 0);
        x.lodges(0, 1, 100);
        due("one is watched: the other one", x.guard(0, 60, 0), 4);
        due("both stay", x.guard(0, 60, 1), 6);
        x.lodges(4, 1, 100);
        due("both are watched: the least", x.guard(0, 60, 0), 0);
        due("watch as it was", x.house(1, 1), 0);
        x = new RoofWar();
        x.roof(0, 2, 0, 11);
        x.rule(1, 0);
        due("in TOWN 1, by its own number", x.guard(1, 1, 0), 11);
        due("in TOWN 1", x.guard(1, 1, 1), 2);
        due("TOWN 0 gets none then either way", x.guard(0, 1, 0), 0);
        due("TOWN 0: dry", x.guard(0, 1, 1), 2);
        due("n 0", x.guard(0, 0, 0), BAD);
        due("n 61", x.guard(0, 61, 0), BAD);
        due("n 60", x.guard(1, 60, 0), 11);
    }

    /** "BECOMES .. the KIND as one of which most are DRY, behind n NIGHTS, in the TOWN where it is now; of several the least." */
    private static void becomes() {
        int[][] towns = {{0, 3, 0, 1}, {1, 8, 1, 0}};
        for (int[] t : towns) {
            RoofWar x = new RoofWar();
            x.roof(0, 2, 0, t[1]);
            x.lodges(t[1], 0, 9);
            x.rule(t[2], 0);
            int[] strengths = {5, 7, 8, 3, 0};
            int[] kinds = {2, 2, 0, 2, 2};
            int[] dry = {5, 5, 0, 5, 5};
            for (int i = 0; i < strengths.length; i++) {
                x.rule(t[3], strengths[i]);
                due("STRENGTH " + strengths[i] + ": kind", x.becomes(0, 60, 0), kinds[i]);
                due("STRENGTH " + strengths[i] + ": dry", x.becomes(0, 60, 1), dry[i]);
            }
            x.lodges(t[1], 0, 2);
            due("few people: the least that stays", x.becomes(0, 1, 0), 0);
            x.rule(t[3], 3);
            due("few people, THATCH and HAY go: the least still", x.becomes(0, 60, 0), 0);
            x.rule(t[3], 4);
            due("few people, ROOF goes: DOME", x.becomes(0, 60, 0), 2);
            due("kind as it was", x.told(0, 0), 0);
            due("n 0", x.becomes(0, 0, 0), BAD);
            due("n 61", x.becomes(0, 61, 0), BAD);
        }
    }

    /** "LIKE .. just place k at most places that are numbers (k from 0 on); of several the least." "NONE: there are no ROOFS." */
    private static void like() {
        RoofWar x = new RoofWar();
        x.sheet(0, 1, 24);
        due("no roofs", x.like(0, 0), NONE);
        due("no roofs, what 1", x.like(0, 1), NONE);
        x.roof(0, 9, 0, 1);
        x.roof(0, 9, 0, 0);
        x.roof(0, 1, 0, 6);
        due("house 0 at each of 24 places", x.like(0, 0), 1);
        due("how many", x.like(0, 1), 24);
        for (int k = 0; k < 24; k++) {
            x.mark(0, k, NONE);
        }
        due("no numbers: the least", x.like(0, 0), 0);
        due("no numbers: none", x.like(0, 1), 0);
        x.mark(0, 23, 0);
        due("the last place", x.like(0, 0), 1);
        due("one", x.like(0, 1), 1);
        x.mark(0, 22, 1);
        due("one each: the least", x.like(0, 0), 0);
        x.mark(0, 0, 6);
        x.mark(0, 1, 6);
        due("roof 2 now, and behind night 0 again", x.like(0, 0), 2);
        due("two", x.like(0, 1), 2);
        x.mark(0, 1, 2);
        x.mark(0, 2, 2);
        due("behind night 1 over its home", x.like(0, 0), 2);
        due("at places 0 and 2", x.like(0, 1), 2);
        x.sheet(1, 0, 3);
        x.mark(1, 1, -1);
        x.mark(1, 2, 12);
        due("shorts", x.like(1, 0), 1);
        due("house 0 at place 0 alone", x.like(1, 1), 1);
        x.deal(12);
        x.sheet(3, 0, 24);
        for (int k = 0; k < 24; k++) {
            x.mark(3, k, x.told(11, 3));
        }
        due("twelve roofs: the last one", x.like(3, 0), 11);
        due("twelve roofs, 24 places", x.like(3, 1), 24);
        x.sheet(2, 1, 0);
        due("no places: the least", x.like(2, 0), 0);
        due("no places: none", x.like(2, 1), 0);
    }

    // ---- promises 1 to 23, where the sections tell no edge yet

    private static void roofCalls() {
        RoofWar x = new RoofWar();
        due("told of no roofs", x.told(0, 0), BAD);
        x.roof(3, 9, 99, 6);
        int[] told = {3, 9, 99, 6, 9, 4, 22, 26};
        for (int what = -1; what <= 8; what++) {
            due("told what " + what, x.told(0, what), what < 0 || what > 7 ? BAD : told[what]);
        }
        due("hay as itself", x.as(0, 3), 6);
        due("hay as what is above it", x.as(0, 1), 6);
        due("hay as what is above all", x.as(0, 0), 6);
        due("hay as a dome", x.as(0, 2), KIND);
        due("turns to what it is", x.turns(0, 3), 3);
        due("turns to 5", x.turns(0, 5), 3);
        due("turns to 0", x.turns(0, 0), 5);
        due("a roof as hay", x.as(0, 3), KIND);
        due("size and leak stay", x.told(0, 1) * 100 + x.told(0, 2), 999);
        due("set to what it is", x.set(0, 1, 9), 9);
        due("leak to 0", x.set(0, 2, 0), 99);
        due("leak to 99", x.set(0, 2, 99), 0);
        due("set what 0", x.set(0, 0, 0), BAD);
        due("set what 3", x.set(0, 3, 7), BAD);
        due("moves over its own house", x.moves(0, 6), NO);
        due("moves over the last", x.moves(0, 11), 6);
        due("moves over the first", x.moves(0, 0), 11);
        due("left without a roof", x.house(11, 2), NONE);
        due("moving is no stealing", x.hill(0), 0);
        due("nor in spite", x.told(0, 2), 99);
    }

    private static void dealt() {
        RoofWar x = new RoofWar();
        due("deal 0", x.deal(0), BAD);
        due("deal 13", x.deal(13), BAD);
        due("no draws when refused", x.count(8), 1);
        due("deal 12", x.deal(12), 12);
        drawn = 1;
        for (int i = 0; i < 48; i++) {
            draw();
        }
        due("four draws each", x.count(8), drawn);
        due("deal without room", x.deal(12), 0);
        due("no draws for others", x.count(8), drawn);
        x = new RoofWar();
        for (int h = 0; h < 11; h++) {
            x.roof(0, 1, 0, h);
        }
        due("room for one", x.deal(2), 1);
        due("four draws", x.count(8), -999580867);
    }

    private static void nightCalls() {
        RoofWar x = new RoofWar();
        due("nights 0", x.nights(0), BAD);
        due("nights 101", x.nights(101), BAD);
        due("nothing passed", x.count(1), 0);
        due("nights 100", x.nights(100), 0);
        due("night 100", x.count(1), 100);
        x.roof(0, 1, 0, 5);
        due("steals", x.steals(0), 6);
        due("nights tell by how much STOLEN is more", x.nights(1), 2);
        due("STOLEN of all", x.hill(0), 3);
        due("hill -1", x.hill(-1), BAD);
        due("hill 6", x.hill(6), BAD);
        x = new RoofWar();
        x.roof(0, 6, 0, 0);
        x.roof(0, 7, 0, 1);
        fills(x, 1);
        x.rule(1, 99);
        due("no home", x.steals(0), NO);
        x.moves(2, 5);
        x.rule(1, 12);
        due("weighs 14", x.steals(1), NO);
        x.lodges(0, 1, 100);
        due("weighs 12, nobody watches", x.steals(0), 6);
        due("none is caught", x.hill(1), 0);
        due("no draws", x.count(8), 1);
    }

    public static void main(String[] args) {
        cuts();
        sets();
        towns();
        housesAtTheirBounds();
        roofsAtTheirBounds();
        rulesAtTheirBounds();
        theNight();
        kindsBySize();
        kindsByLeak();
        dry();
        mayCarry();
        home();
        spite();
        whoGoesFirst();
        noDrawsOfATown();
        whichIsDrawn();
        watch();
        rain();
        draws();
        dealtRound();
        fits();
        prize();
        withoutTheBound();
        behind();
        gone();
        guard();
        becomes();
        like();
        roofCalls();
        dealt();
        nightCalls();
        end();
    }
}
