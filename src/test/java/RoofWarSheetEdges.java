// The edges that ../shared/DOC.md names in section 5 and promises 31 to 44, sentence by sentence, in its order.
public final class RoofWarSheetEdges extends Due {
    private static final int SHORTS = 0;
    private static final int FLOATS = 1;
    private static final int MISSING = -1;

    /** The places of a sheet, seen through slot 4: each number, or KIND for NO NUMBER, and INDEX behind the last. */
    private static void sheetIs(String when, RoofWar x, int sheet, int... places) {
        x.lay(4, 2, sheet);
        for (int k = 0; k < places.length; k++) {
            due(when + ": place " + k, x.item(4, k), places[k]);
        }
        due(when + ": behind the last", x.item(4, places.length), INDEX);
    }

    private static void fill(RoofWar x, int sheet, int sort, int... places) {
        x.sheet(sheet, sort, places.length);
        for (int k = 0; k < places.length; k++) {
            x.mark(sheet, k, places[k]);
        }
    }

    /** "SHEETS 0 .. 3 are rows of shorts (sort 0) or floats (1), with 0 to 24 places, or MISSING (at first)." */
    private static void sheets() {
        RoofWar x = new RoofWar();
        for (int s = 0; s < 4; s++) {
            due("mark at first", x.mark(s, 0, 0), NOTHING);
            due("pour at first", x.pour(s), NOTHING);
            due("reads at first", x.reads(s), NOTHING);
            due("like at first", x.like(s, 0), NOTHING);
            due("copy at first", x.copy(s, 0, s, 0, 0), NOTHING);
            due("lay at first", x.lay(0, 2, s), NOTHING);
            for (int sort = 0; sort < 2; sort++) {
                due("24 places", x.sheet(s, sort, 24), 24);
                due("the last of them", x.mark(s, 23, 7), 1);
                due("no place 24", x.mark(s, 24, 7), INDEX);
                due("no place -1", x.mark(s, -1, 7), INDEX);
                due("25 places", x.sheet(s, sort, 25), BAD);
                due("it stays as it was", x.mark(s, 23, 8), 1);
                due("-1 places", x.sheet(s, sort, -1), SIZE);
                due("it stays as it was", x.mark(s, 23, 9), 1);
                due("no places", x.sheet(s, sort, 0), 0);
                due("none at all", x.mark(s, 0, 7), INDEX);
                due("but not missing", x.reads(s), NONE);
            }
            for (int n : new int[] {0, 24, 25, -1, Integer.MIN_VALUE, Integer.MAX_VALUE}) {
                x.sheet(s, FLOATS, 3);
                due("missing, n " + n, x.sheet(s, MISSING, n), 0);
                due("missing", x.mark(s, 0, 0), NOTHING);
                due("missing again", x.sheet(s, MISSING, n), 0);
            }
        }
        for (int v : new int[] {-1, 4, Integer.MIN_VALUE, Integer.MAX_VALUE}) {
            due("sheet " + v, x.sheet(v, 0, 1), BAD);
            due("sheet " + v + " missing", x.sheet(v, -1, 1), BAD);
            due("sheet " + v + ", below 0 places", x.sheet(v, 0, -1), BAD);
            due("mark " + v, x.mark(v, 0, 0), BAD);
            due("pour " + v, x.pour(v), BAD);
            due("reads " + v, x.reads(v), BAD);
            due("copy from " + v, x.copy(v, 0, 0, 0, 0), BAD);
            due("copy to " + v, x.copy(0, 0, v, 0, 0), BAD);
        }
        for (int sort : new int[] {-2, 2, Integer.MIN_VALUE, Integer.MAX_VALUE}) {
            due("sort " + sort, x.sheet(0, sort, 1), BAD);
            due("sort " + sort + ", below 0 places", x.sheet(0, sort, -1), BAD);
        }
        due("the most", x.sheet(0, 0, Integer.MAX_VALUE), BAD);
        due("the least", x.sheet(0, 0, Integer.MIN_VALUE), SIZE);
    }

    /** "A SHEET becomes a row of n places of a sort, all 0". */
    private static void allNought() {
        RoofWar x = new RoofWar();
        fill(x, 2, FLOATS, 5, NONE, 7);
        x.sheet(2, FLOATS, 2);
        sheetIs("fewer places", x, 2, 0, 0);
        x.sheet(2, FLOATS, 4);
        sheetIs("more places", x, 2, 0, 0, 0, 0);
        x.mark(2, 3, NONE);
        x.sheet(2, SHORTS, 4);
        sheetIs("another sort", x, 2, 0, 0, 0, 0);
        x.mark(2, 0, 9);
        x.sheet(2, MISSING, 0);
        x.sheet(2, SHORTS, 1);
        sheetIs("missing between", x, 2, 0);
    }

    /** "A place of a SHEET becomes v (of shorts its lowest 16 bits; of floats v, -99999 .. 99999; NONE: NO NUMBER): 1." */
    private static void marks() {
        RoofWar x = new RoofWar();
        x.sheet(0, SHORTS, 1);
        x.sheet(1, FLOATS, 1);
        int[] given = {
            0, 1, -1, 32767, 32768, 65535, 65536, 65537, -32768, -32769, -65536, 99999, 100000,
            Integer.MAX_VALUE, Integer.MIN_VALUE, BAD, NONE + 1, NONE - 1};
        int[] shorts = {
            0, 1, -1, 32767, -32768, -1, 0, 1, -32768, 32767, 0, -31073, -31072,
            -1, 0, 13823, 13820, 13818};
        for (int i = 0; i < given.length; i++) {
            due("mark shorts " + given[i], x.mark(0, 0, given[i]), 1);
            sheetIs("shorts " + given[i], x, 0, shorts[i]);
            boolean held = given[i] >= -99999 && given[i] <= 99999;
            x.mark(1, 0, 4);
            due("mark floats " + given[i], x.mark(1, 0, given[i]), held ? 1 : BAD);
            sheetIs("floats " + given[i], x, 1, held ? given[i] : 4);
        }
        x.mark(0, 0, 5);
        due("NONE in shorts", x.mark(0, 0, NONE), KIND);
        sheetIs("NONE in shorts", x, 0, 5);
        due("NONE beyond shorts", x.mark(0, 1, NONE), INDEX);
        due("NONE in floats", x.mark(1, 0, NONE), 1);
        sheetIs("NO NUMBER", x, 1, KIND);
        due("100000 beyond floats", x.mark(1, 1, 100000), INDEX);
        due("99999", x.mark(1, 0, 99999), 1);
        due("-99999", x.mark(1, 0, -99999), 1);
        due("-100000", x.mark(1, 0, -100000), BAD);
        sheetIs("a number again", x, 1, -99999);
        for (int v : BOTH_ENDS) {
            due("place " + v, x.mark(0, v, 0), INDEX);
            due("place " + v + " of floats, v too large", x.mark(1, v, 100000), INDEX);
            due("place " + v + " of a sheet that is none", x.mark(4, v, 0), BAD);
            due("place " + v + " of one that is missing", x.mark(2, v, 0), NOTHING);
        }
    }

    /** "LEAK of ROOFS .. becomes the places .. (each held within 0 .. 99; NO NUMBER, and beyond the SHEET: it stays)". */
    private static void pour() {
        RoofWar x = new RoofWar();
        x.sheet(0, FLOATS, 24);
        due("no roofs", x.pour(0), 0);
        for (int r = 0; r < 8; r++) {
            x.roof(0, 1, 50, r);
        }
        fill(x, 0, FLOATS, -1, 0, 99, 100, NONE, 50, -99999);
        due("held, or as they were", x.pour(0), 5);
        int[] leaks = {0, 0, 99, 99, 50, 50, 0, 50};
        for (int r = 0; r < 8; r++) {
            due("leak of roof " + r, x.told(r, 2), leaks[r]);
        }
        due("none is otherwise then", x.pour(0), 0);
        fill(x, 1, SHORTS, -32768, 32767, 1);
        due("shorts", x.pour(1), 2);
        due("leak of roof 0", x.told(0, 2), 0);
        due("leak of roof 1", x.told(1, 2), 99);
        due("leak of roof 2", x.told(2, 2), 1);
        x.sheet(2, SHORTS, 0);
        due("no places", x.pour(2), 0);
        x.sheet(2, SHORTS, 24);
        due("more places than roofs", x.pour(2), 6);
        due("leak of all", x.hill(5), 0);
        x.deal(12);
        for (int k = 0; k < 24; k++) {
            x.mark(2, k, 60 + k);
        }
        due("twelve roofs, 24 places", x.pour(2), 12);
        due("leak of roof 11", x.told(11, 2), 71);
    }

    /** "The first place (of numbers alone) at which a SHEET is not the HOUSE of that ROOF (of places that are no ROOF ..)". */
    private static void reads() {
        RoofWar x = new RoofWar();
        x.sheet(0, FLOATS, 0);
        due("no places", x.reads(0), NONE);
        x.sheet(0, FLOATS, 2);
        due("no roofs: any number is not", x.reads(0), 0);
        x.mark(0, 0, NONE);
        due("the next number", x.reads(0), 1);
        x.mark(0, 1, NONE);
        due("no numbers", x.reads(0), NONE);
        x.roof(0, 1, 0, 11);
        x.roof(0, 1, 0, 0);
        fill(x, 0, FLOATS, 11, 0);
        due("all are", x.reads(0), NONE);
        x.mark(0, 0, 0);
        due("the first is not", x.reads(0), 0);
        x.mark(0, 0, NONE);
        due("the first is no number", x.reads(0), NONE);
        x.mark(0, 1, -1);
        due("the last is not", x.reads(0), 1);
        fill(x, 1, SHORTS, 11, 0, 0);
        due("the place behind the roofs", x.reads(1), 2);
        fill(x, 2, FLOATS, 11, 0, NONE, NONE, 3);
        due("no numbers behind the roofs, then one", x.reads(2), 4);
        x.mark(2, 4, NONE);
        due("no numbers behind the roofs", x.reads(2), NONE);
        x.sheet(3, SHORTS, 24);
        x.deal(10);
        for (int r = 0; r < 12; r++) {
            x.mark(3, r, x.told(r, 3));
        }
        due("twelve roofs, 24 places", x.reads(3), 12);
        fill(x, 3, SHORTS, 11);
        due("fewer places than roofs", x.reads(3), NONE);
    }

    /** "So many places of a SHEET come to another one (or the same), as they were: many. .. INDEX." */
    private static void copy() {
        RoofWar x = new RoofWar();
        fill(x, 0, FLOATS, 1, NONE, 3, 4, 5);
        x.sheet(1, FLOATS, 3);
        due("to the end of both", x.copy(0, 2, 1, 0, 3), 3);
        sheetIs("copied", x, 1, 3, 4, 5);
        sheetIs("from as it was", x, 0, 1, KIND, 3, 4, 5);
        due("one beyond the end of from", x.copy(0, 3, 1, 0, 3), INDEX);
        due("one beyond the end of to", x.copy(0, 0, 1, 1, 3), INDEX);
        due("place -1", x.copy(0, -1, 1, 0, 1), INDEX);
        due("at -1", x.copy(0, 0, 1, -1, 1), INDEX);
        due("many -1", x.copy(0, 0, 1, 0, -1), INDEX);
        due("many -1 from the end", x.copy(0, 5, 1, 3, -1), INDEX);
        sheetIs("refused: to as it was", x, 1, 3, 4, 5);
        due("none, from the end to the end", x.copy(0, 5, 1, 3, 0), 0);
        due("none, from beyond the end", x.copy(0, 6, 1, 3, 0), INDEX);
        due("none, to beyond the end", x.copy(0, 5, 1, 4, 0), INDEX);
        due("NO NUMBER too", x.copy(0, 1, 1, 1, 1), 1);
        sheetIs("NO NUMBER too", x, 1, 3, KIND, 5);
        due("in itself, up", x.copy(0, 0, 0, 1, 4), 4);
        sheetIs("in itself, as they were", x, 0, 1, 1, KIND, 3, 4);
        due("in itself, down", x.copy(0, 1, 0, 0, 4), 4);
        sheetIs("in itself, as they were", x, 0, 1, KIND, 3, 4, 4);
        due("in itself, all", x.copy(0, 0, 0, 0, 5), 5);
        sheetIs("in itself, all", x, 0, 1, KIND, 3, 4, 4);
        int most = Integer.MAX_VALUE;
        due("great place", x.copy(0, most, 1, 0, 1), INDEX);
        due("great at", x.copy(0, 0, 1, most, 1), INDEX);
        due("great many", x.copy(0, 1, 1, 0, most), INDEX);
        due("great many at", x.copy(0, 0, 1, 1, most), INDEX);
        due("all great", x.copy(0, most, 1, most, most), INDEX);
        due("all least", x.copy(0, Integer.MIN_VALUE, 1, Integer.MIN_VALUE, Integer.MIN_VALUE), INDEX);
        x.sheet(2, SHORTS, 5);
        due("not of one sort", x.copy(0, 0, 2, 0, 1), KIND);
        due("not of one sort, nor such a place", x.copy(2, 9, 0, -1, 7), KIND);
        due("not of one sort, none", x.copy(0, 0, 2, 0, 0), KIND);
        due("to one that is missing", x.copy(2, 9, 3, 9, 9), NOTHING);
        due("from one that is missing", x.copy(3, 9, 2, 9, 9), NOTHING);
        due("from one that is missing to none", x.copy(3, 0, 4, 0, 0), BAD);
        due("from none to one that is missing", x.copy(-1, 0, 3, 0, 0), BAD);
        x.sheet(3, SHORTS, 24);
        x.sheet(2, SHORTS, 24);
        x.mark(3, 23, 8);
        due("24 places", x.copy(3, 0, 2, 0, 24), 24);
        due("25 places", x.copy(3, 0, 2, 0, 25), INDEX);
        x.lay(0, 2, 2);
        due("the last of 24", x.item(0, 23), 8);
    }

    /** "SLOTS 0 .. 4 each hold nothing (at first), a ROOF (as it is then, for good), a SHEET (a row of its own ..), or a number." */
    private static void slots() {
        RoofWar x = new RoofWar();
        for (int s = 0; s < 5; s++) {
            due("ask at first", x.ask(s, 0), NOTHING);
            due("item at first", x.item(s, 0), NOTHING);
            due("rest at first", x.rest(s, 1), NOTHING);
            due("lay at first", x.lay(s, 3, s), 0);
        }
        for (int s = 0; s < 5; s++) {
            due("each its own", x.rest(s, 10), s);
        }
        x.roof(3, 4, 0, 0);
        x.keep();
        fill(x, 0, FLOATS, 6, NONE);
        due("a number was held", x.lay(0, 1, 0), 3);
        due("a roof was held", x.lay(0, 2, 0), 1);
        due("a sheet was held", x.lay(0, 0, 0), 2);
        due("nothing was held", x.lay(0, 0, 0), 0);
        x.lay(0, 1, 0);
        x.lay(1, 2, 0);
        x.turns(0, 2);
        x.set(0, 1, 9);
        x.moves(0, 7);
        x.mark(0, 0, 8);
        due("the roof as it was", x.ask(0, 3), 16);
        due("the row as it was", x.item(1, 0), 6);
        x.sheet(0, MISSING, 0);
        due("the row as it was", x.item(1, 1), KIND);
        due("no place behind it", x.item(1, 2), INDEX);
        x.back();
        x.turns(0, 2);
        due("the roof for good", x.ask(0, 1), 16);
        due("the roof's own kind then", x.ask(0, 2), KIND);
        x.sheet(0, SHORTS, 24);
        x.lay(1, 2, 0);
        due("place 23", x.item(1, 23), 0);
        due("place 24", x.item(1, 24), INDEX);
        due("place -1", x.item(1, -1), INDEX);
        x.sheet(0, SHORTS, 0);
        x.lay(1, 2, 0);
        due("no places", x.item(1, 0), INDEX);
    }

    /** "BAD: slot, thing, k; NOTHING: that SHEET is MISSING." */
    private static void layRefused() {
        RoofWar x = new RoofWar();
        x.lay(0, 3, 5);
        due("no roofs", x.lay(0, 1, 0), BAD);
        x.roof(0, 1, 0, 0);
        due("roof 1", x.lay(0, 1, 1), BAD);
        due("roof -1", x.lay(0, 1, -1), BAD);
        due("sheet 4", x.lay(0, 2, 4), BAD);
        due("sheet -1", x.lay(0, 2, -1), BAD);
        due("sheet 3 is missing", x.lay(0, 2, 3), NOTHING);
        due("thing 4", x.lay(0, 4, 0), BAD);
        due("thing -1", x.lay(0, -1, 0), BAD);
        due("slot 5", x.lay(5, 3, 0), BAD);
        due("slot -1", x.lay(-1, 3, 0), BAD);
        due("slot 5, a sheet that is missing", x.lay(5, 2, 3), BAD);
        due("it holds what it held", x.rest(0, 10), 5);
        for (int v : BOTH_ENDS) {
            due("slot " + v, x.lay(v, 0, 0), BAD);
            due("thing " + v, x.lay(0, v, 0), BAD);
            due("roof " + v, x.lay(0, 1, v), BAD);
            due("sheet " + v, x.lay(0, 2, v), BAD);
            due("number " + v, x.lay(1, 3, v), v == Integer.MIN_VALUE ? 0 : 3);
            due("that number", x.rest(1, 1000), v % 1000);
            due("nothing, k " + v, x.lay(2, 0, v), 0);
        }
    }

    /** "WORTH (by its own KIND) of the ROOF in a SLOT, taken for one of a KIND (0 .. 5)." */
    private static void ask() {
        int[] worth = {4, 8, 26, 16, 20, 2};
        int[][] above = {{0}, {0, 1}, {0, 2}, {0, 1, 3}, {0, 2, 4}, {0, 5}};
        RoofWar x = new RoofWar();
        x.roof(0, 4, 0, 0);
        x.sheet(0, SHORTS, 1);
        for (int kind = 0; kind < 6; kind++) {
            x.turns(0, kind);
            x.lay(0, 1, 0);
            int[] want = {KIND, KIND, KIND, KIND, KIND, KIND};
            for (int a : above[kind]) {
                want[a] = worth[kind];
            }
            for (int as = 0; as < 6; as++) {
                due("kind " + kind + " taken for " + as, x.ask(0, as), want[as]);
            }
        }
        x.lay(1, 2, 0);
        x.lay(2, 3, 0);
        due("a sheet", x.ask(1, 0), KIND);
        due("a number", x.ask(2, 0), KIND);
        due("nothing", x.ask(3, 0), NOTHING);
        for (int v : new int[] {-1, 6, Integer.MIN_VALUE, Integer.MAX_VALUE}) {
            due("kind " + v, x.ask(0, v), BAD);
            due("nothing, kind " + v, x.ask(3, v), BAD);
            due("a number, kind " + v, x.ask(2, v), BAD);
        }
        for (int v : new int[] {-1, 5, Integer.MIN_VALUE, Integer.MAX_VALUE}) {
            due("ask slot " + v, x.ask(v, 0), BAD);
            due("item slot " + v, x.item(v, 0), BAD);
            due("rest slot " + v, x.rest(v, 1), BAD);
        }
    }

    /** "A place of the SHEET in a SLOT." "The rest of the number in a SLOT by n. .. NO: n is 0." */
    private static void itemAndRest() {
        RoofWar x = new RoofWar();
        x.roof(0, 4, 0, 0);
        fill(x, 0, FLOATS, NONE, -99999);
        x.lay(0, 1, 0);
        x.lay(1, 2, 0);
        x.lay(2, 3, Integer.MIN_VALUE);
        due("item of nothing, no such place", x.item(3, -1), NOTHING);
        due("item of a roof, no such place", x.item(0, -1), KIND);
        due("item of a number, no such place", x.item(2, -1), KIND);
        due("item: no such place", x.item(1, 2), INDEX);
        due("item: NO NUMBER", x.item(1, 0), KIND);
        due("item: the least", x.item(1, 1), -99999);
        for (int v : BOTH_ENDS) {
            due("item " + v, x.item(1, v), INDEX);
        }
        due("rest of nothing by 0", x.rest(3, 0), NOTHING);
        due("rest of a roof by 0", x.rest(0, 0), KIND);
        due("rest of a sheet by 0", x.rest(1, 0), KIND);
        due("rest by 0", x.rest(2, 0), NO);
        due("the least by -1", x.rest(2, -1), 0);
        due("the least by 1", x.rest(2, 1), 0);
        due("the least by itself", x.rest(2, Integer.MIN_VALUE), 0);
        due("the least by the most", x.rest(2, Integer.MAX_VALUE), -1);
        due("the least by 1000", x.rest(2, 1000), -648);
        x.lay(2, 3, 0);
        due("0 by 5", x.rest(2, 5), 0);
        due("0 by 0", x.rest(2, 0), NO);
    }

    // ---- images

    /** "AN IMAGE keeps all but SHEETS, SLOTS, numbers that wait, THE TAPE; all can become as it is (again and again)." */
    private static void image() {
        RoofWar x = new RoofWar();
        due("no image", x.back(), NO);
        due("an image without roofs", x.keep(), 0);
        x.deal(12);
        due("back to no roofs", x.back(), 0);
        due("none", x.count(0), 0);
        due("every house is free", x.roof(0, 1, 9, 11), 0);
        x.roof(2, 2, 8, 0);
        x.lodges(11, 0, 8);
        x.lodges(11, 1, 77);
        x.rule(0, 1);
        x.rule(1, 99);
        x.rule(2, 100);
        x.lodges(0, 1, 100);
        x.nights(2);
        due("CAUGHT is more than 0", x.hill(1), 2);
        reads(x, "fee 1");
        x.seed(-5);
        int[] hill = new int[6];
        for (int i = 0; i < 6; i++) {
            hill[i] = x.hill(i);
        }
        int over = x.told(1, 3);
        due("an image of two", x.keep(), 2);
        for (int again = 0; again < 3; again++) {
            x.roof(1, 1, 1, 5);
            x.turns(0, 5);
            x.set(0, 1, 5);
            x.set(0, 2, 5);
            x.moves(1, 10);
            x.lodges(11, 0, 1);
            x.lodges(11, 1, 1);
            x.rule(0, 50);
            x.rule(1, 50);
            x.rule(2, 50);
            x.nights(30);
            x.trim(0);
            reads(x, "fee 2");
            x.sheet(0, SHORTS, again + 1);
            x.lay(0, 3, 40 + again);
            x.tell(again);
            x.feed(0, 0, 0);
            due("back", x.back(), 2);
            int[] counts = {2, 2, 1, 99, 100, 1, again + 1, 12, -5};
            for (int i = 0; i < 9; i++) {
                due("back: count " + i, x.count(i), counts[i]);
            }
            for (int i = 0; i < 6; i++) {
                due("back: hill " + i, x.hill(i), hill[i]);
            }
            due("back: kind", x.told(0, 0), 0);
            due("back: sized", x.told(0, 1), 1);
            due("back: over", x.told(1, 3), over);
            due("back: its house", x.house(over, 2), 1);
            due("back: the other house", x.house(5, 2), NONE);
            due("back: people", x.house(11, 0), 8);
            due("back: watch", x.house(11, 1), 77);
            due("back: fee", x.fee(), 1);
            x.lay(1, 2, 0);
            due("the sheet stays", x.item(1, again), 0);
            due("no more of it", x.item(1, again + 1), INDEX);
            due("the slot stays", x.rest(0, 100), 40 + again);
        }
        x.roof(0, 1, 0, 4);
        due("a new image", x.keep(), 3);
        x.turns(2, 5);
        due("back to the new one", x.back(), 3);
        due("as it was kept", x.told(2, 0), 0);
    }

    /** "One more number waits: how many. FULL: 60 wait." */
    private static void tell() {
        RoofWar x = new RoofWar();
        for (int i = 1; i <= 60; i++) {
            due("tell", x.tell(i % 2 == 0 ? Integer.MIN_VALUE : NONE), i);
        }
        due("tell too many", x.tell(1), FULL);
        due("tell too many again", x.tell(1), FULL);
        due("60 wait", x.count(6), 60);
        due("check without an image", x.check(30), NO);
        due("none wait", x.count(6), 0);
        due("tell again", x.tell(1), 1);
        due("check wrong, without an image", x.check(0), BAD);
        due("none wait", x.count(6), 0);
        x.tell(1);
        due("check 31", x.check(31), BAD);
        due("none wait", x.count(6), 0);
        x.keep();
        x.tell(1);
        due("check -1 with an image", x.check(-1), BAD);
        due("none wait", x.count(6), 0);
        for (int v : BOTH_ENDS) {
            due("check " + v, x.check(v), BAD);
        }
        due("nothing told, one night due", x.check(1), 1);
        due("nothing told, 30 nights due", x.check(30), 1);
    }

    private static void tells(RoofWar x, int... numbers) {
        for (int v : numbers) {
            x.tell(v);
        }
    }

    /** "THE NIGHTS TOLD of n .. two by two: 0; else 1 and how many stand right ahead of the first that is not (or ..)". */
    private static void check() {
        RoofWar x = new RoofWar();
        x.roof(0, 1, 20, 6);
        x.roof(0, 9, 3, 0);
        x.keep();
        // night 0: taken and taken back (STOLEN 2, LEAK 30 and 3), night 1: taken (3), night 2: taken back (4)
        int[] due = {2, 33, 3, 38, 4, 43};
        for (int n = 1; n <= 3; n++) {
            for (int told = 0; told <= 6; told++) {
                for (int i = 0; i < told; i++) {
                    x.tell(due[i]);
                }
                due("check " + n + " of " + told, x.check(n), told == 2 * n ? 0 : 1 + Math.min(told, 2 * n));
            }
        }
        tells(x, 2, 33, 3, 37, 4, 43);
        due("the fourth is not", x.check(3), 4);
        tells(x, 2, 33, 4, 38, 4, 43);
        due("the third is not", x.check(3), 3);
        tells(x, 0, 33, 3, 38, 4, 43);
        due("the first is not", x.check(3), 1);
        tells(x, 2, 33, 3, 38, 4, 42);
        due("the last is not", x.check(3), 6);
        tells(x, 2, 33, 5, 38, 4);
        due("the third is not, the last is missing", x.check(3), 3);
        tells(x, 2, 33, 3, 38, 4, 43, 5);
        due("one too many", x.check(3), 7);
        tells(x, 2, 33, 3, 38, 4, 43, 5, 5);
        due("two too many", x.check(3), 7);
        x.nights(5);
        x.turns(1, 5);
        x.set(1, 2, 99);
        x.rule(0, 0);
        tells(x, 2, 33);
        due("by the image, not as it is", x.check(1), 0);
        due("as it is stays", x.told(1, 2), 99);
        due("the image stays", x.back(), 2);
        due("the night of the image", x.count(1), 0);
        due("z of the image", x.count(8), 1);
    }

    /** "fewer, if THE NIGHT would be above 9999". */
    private static void checkAtTheEnd() {
        RoofWar x = atNight(9997);
        x.roof(5, 1, 7, 0);
        x.rule(1, 0);
        x.keep();
        tells(x, 0, 7, 0, 7);
        due("two nights of two", x.check(2), 0);
        tells(x, 0, 7, 0, 7);
        due("two nights of 30", x.check(30), 0);
        tells(x, 0, 7);
        due("one night of 30: the next is missing", x.check(30), 3);
        tells(x, 0, 7, 0, 7, 0);
        due("three nights of 30: one too many", x.check(3), 5);
        x.nights(2);
        tells(x, 0, 7, 0, 7);
        due("by THE NIGHT of the image", x.check(3), 0);
        x.keep();
        due("at 9999 none are due", x.check(1), 0);
        tells(x, 0);
        due("at 9999 one is too many", x.check(1), 1);
    }

    /** "0 how many ROOFS, 1 THE NIGHT, .. 8 z. BAD." */
    private static void count() {
        RoofWar x = new RoofWar();
        for (int v : new int[] {-1, 9, Integer.MIN_VALUE, Integer.MAX_VALUE}) {
            due("count " + v, x.count(v), BAD);
        }
        x.deal(12);
        due("twelve roofs", x.count(0), 12);
        x.seed(Integer.MIN_VALUE);
        due("z", x.count(8), Integer.MIN_VALUE);
        x.rule(0, 0);
        x.rule(1, 99);
        x.rule(2, 100);
        due("STRENGTH of TOWN 0", x.count(2), 0);
        due("STRENGTH of TOWN 1", x.count(3), 99);
        due("RAIN", x.count(4), 100);
        x.trim(0);
        due("bytes", x.count(7), 0);
    }

    public static void main(String[] args) {
        sheets();
        allNought();
        marks();
        pour();
        reads();
        copy();
        slots();
        layRefused();
        ask();
        itemAndRest();
        image();
        tell();
        check();
        checkAtTheEnd();
        count();
        end();
    }
}
