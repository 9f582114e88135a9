import java.util.ArrayList;
import java.util.Arrays;
import java.util.List;
import java.util.regex.Matcher;
import java.util.regex.Pattern;

// "A call that is refused answers one of BAD, NO, FULL, or a FINDING, of several the one that stands first with it, and
// changes nothing (but the tape and the numbers that wait, where told)": each refusal, several at once, on three hills.
// A hill that was asked is compared, by all that it can be asked, with a second one, made alike, that was not.
public final class RoofWarRefusals extends Due {
    /** In rows: any answer will do, the call is one that only asks. */
    private static final int ANY = 1000000001;

    private static final int NEW = 0;
    private static final int ORDINARY = 1;
    private static final int FULL_OF_ALL = 2;

    private static final String[] ON_ANY = {
        "roof -1 1 0 1 BAD", "roof 6 1 0 1 BAD", "roof 0 0 0 1 BAD", "roof 0 10 0 1 BAD", "roof 0 1 -1 1 BAD",
        "roof 0 1 100 1 BAD", "roof 0 1 0 -1 BAD", "roof 0 1 0 12 BAD", "roof MIN 1 0 1 BAD", "roof MAX 1 0 1 BAD",
        "roof 0 MIN 0 1 BAD", "roof 0 MAX 0 1 BAD", "roof 0 1 MIN 1 BAD", "roof 0 1 MAX 1 BAD", "roof 0 1 0 MIN BAD",
        "roof 0 1 0 MAX BAD", "roof -1 0 -1 -1 BAD",
        "told -1 0 BAD", "told 12 0 BAD", "told 0 -1 BAD", "told 0 8 BAD", "told MIN MIN BAD", "told MAX MAX BAD",
        "as -1 0 BAD", "as 12 0 BAD", "as 0 -1 BAD", "as 0 6 BAD", "as MIN 0 BAD", "as 0 MAX BAD",
        "turns -1 0 BAD", "turns 12 0 BAD", "turns 0 -1 BAD", "turns 0 6 BAD", "turns MAX 0 BAD", "turns 0 MIN BAD",
        "set -1 1 5 BAD", "set 12 1 5 BAD", "set 0 0 5 BAD", "set 0 3 5 BAD", "set 0 -1 5 BAD", "set 0 1 0 BAD",
        "set 0 1 10 BAD", "set 0 2 -1 BAD", "set 0 2 100 BAD", "set 0 1 MIN BAD", "set 0 2 MAX BAD", "set MIN 2 5 BAD",
        "moves -1 1 BAD", "moves 12 1 BAD", "moves 0 -1 BAD", "moves 0 12 BAD", "moves MAX 1 BAD", "moves 0 MIN BAD",
        "house -1 0 BAD", "house 12 0 BAD", "house 0 -1 BAD", "house 0 4 BAD", "house MIN 0 BAD", "house 0 MAX BAD",
        "lodges -1 0 5 BAD", "lodges 12 0 5 BAD", "lodges 0 -1 5 BAD", "lodges 0 2 5 BAD", "lodges 0 0 -1 BAD",
        "lodges 0 0 10 BAD", "lodges 0 1 -1 BAD", "lodges 0 1 101 BAD", "lodges 0 1 MAX BAD", "lodges MIN 0 5 BAD",
        "rule -1 5 BAD", "rule 3 5 BAD", "rule 0 -1 BAD", "rule 0 100 BAD", "rule 1 -1 BAD", "rule 1 100 BAD",
        "rule 2 -1 BAD", "rule 2 101 BAD", "rule MIN 5 BAD", "rule 2 MAX BAD", "rule 0 MIN BAD",
        "deal 0 BAD", "deal 13 BAD", "deal -1 BAD", "deal MIN BAD", "deal MAX BAD",
        "nights 0 BAD", "nights 101 BAD", "nights -1 BAD", "nights MIN BAD", "nights MAX BAD",
        "hill -1 BAD", "hill 6 BAD", "hill MIN BAD", "hill MAX BAD",
        "loot -1 0 BAD", "loot 2 0 BAD", "loot 0 -1 BAD", "loot 0 2 BAD", "loot MAX 1 BAD", "loot 1 MIN BAD",
        "steals -1 BAD", "steals 12 BAD", "steals MIN BAD", "steals MAX BAD",
        "fits -1 0 BAD", "fits 2 0 BAD", "fits 0 -2 BAD", "fits 0 6 BAD", "fits MIN -1 BAD", "fits 1 MAX BAD",
        "prize -1 0 BAD", "prize 2 0 BAD", "prize 0 -1 BAD", "prize 0 2 BAD", "prize MAX 0 BAD", "prize 1 MIN BAD",
        "behind -1 0 BAD", "behind 101 0 BAD", "behind 0 -1 BAD", "behind 0 17 BAD", "behind MIN 0 BAD", "behind 0 MAX BAD",
        "gone -1 BAD", "gone 12 BAD", "gone MIN BAD", "gone MAX BAD",
        "guard -1 1 0 BAD", "guard 2 1 0 BAD", "guard 0 0 0 BAD", "guard 0 61 0 BAD", "guard 0 1 -1 BAD", "guard 0 1 2 BAD",
        "guard 0 MAX 0 BAD", "guard MIN 1 0 BAD",
        "becomes -1 1 0 BAD", "becomes 12 1 0 BAD", "becomes 0 0 0 BAD", "becomes 0 61 0 BAD", "becomes 0 1 -1 BAD",
        "becomes 0 1 2 BAD", "becomes 0 MIN 0 BAD", "becomes MAX 1 0 BAD",
        "like -1 0 BAD", "like 4 0 BAD", "like 3 -1 BAD", "like 3 2 BAD", "like 0 2 BAD", "like 3 0 NOTHING", "like 3 1 NOTHING",
        "fine -1 BAD", "fine 12 BAD", "fine MIN BAD", "fine MAX BAD",
        "trim -1 BAD", "trim 97 BAD", "trim MIN BAD", "trim MAX BAD",
        "textTold -1 0 BAD", "textTold 14 0 BAD", "textTold 0 -1 BAD", "textTold 0 2 BAD", "textTold MIN MAX BAD",
        "why -1 BAD", "why 3 BAD", "why MIN BAD", "why MAX BAD",
        "sheet -1 0 2 BAD", "sheet 4 0 2 BAD", "sheet 0 -2 2 BAD", "sheet 0 2 2 BAD", "sheet 0 0 25 BAD", "sheet 1 1 25 BAD",
        "sheet 0 0 -1 SIZE", "sheet 1 1 -1 SIZE", "sheet 0 0 MIN SIZE", "sheet 1 1 MAX BAD", "sheet 4 0 -1 BAD",
        "sheet 0 2 -1 BAD", "sheet -1 -1 0 BAD", "sheet 4 2 25 BAD",
        "mark -1 0 1 BAD", "mark 4 0 1 BAD", "mark 4 -1 NONE BAD", "mark 3 0 1 NOTHING", "mark 3 -1 1 NOTHING",
        "mark 3 0 NONE NOTHING", "mark 3 24 100000 NOTHING", "mark MIN 0 1 BAD", "mark MAX 0 1 BAD",
        "pour -1 BAD", "pour 4 BAD", "pour 3 NOTHING", "pour MIN BAD", "pour MAX BAD",
        "reads -1 BAD", "reads 4 BAD", "reads 3 NOTHING", "reads MIN BAD", "reads MAX BAD",
        "copy -1 0 0 0 1 BAD", "copy 4 0 0 0 1 BAD", "copy 0 0 -1 0 1 BAD", "copy 0 0 4 0 1 BAD", "copy 4 9 3 -1 -1 BAD",
        "copy 3 0 4 0 1 BAD", "copy 3 0 0 0 1 NOTHING", "copy 0 0 3 0 1 NOTHING", "copy 3 -1 3 99 -5 NOTHING",
        "copy 3 0 3 0 0 NOTHING", "copy MIN 0 0 0 1 BAD", "copy 0 0 MAX 0 1 BAD",
        "lay -1 3 1 BAD", "lay 5 3 1 BAD", "lay 1 -1 1 BAD", "lay 1 4 1 BAD", "lay 1 1 -1 BAD", "lay 1 1 12 BAD",
        "lay 1 2 -1 BAD", "lay 1 2 4 BAD", "lay 1 2 3 NOTHING", "lay 5 2 3 BAD", "lay MIN 0 0 BAD", "lay 1 MAX 0 BAD",
        "lay 1 1 MIN BAD", "lay 1 2 MAX BAD",
        "ask -1 0 BAD", "ask 5 0 BAD", "ask 0 -1 BAD", "ask 0 6 BAD", "ask 0 0 NOTHING", "ask 0 5 NOTHING", "ask MIN MAX BAD",
        "item -1 0 BAD", "item 5 0 BAD", "item 0 0 NOTHING", "item 0 -1 NOTHING", "item MAX 0 BAD",
        "rest -1 5 BAD", "rest 5 5 BAD", "rest 0 5 NOTHING", "rest 0 0 NOTHING", "rest 5 0 BAD", "rest MIN 5 BAD",
        "check 0 BAD", "check 31 BAD", "check -1 BAD", "check MIN BAD", "check MAX BAD",
        "count -1 BAD", "count 9 BAD", "count MIN BAD", "count MAX BAD",
        "loot 0 0 ANY", "loot 1 1 ANY", "fits 0 -1 ANY", "fits 1 0 ANY", "prize 0 0 ANY", "prize 1 1 ANY", "behind 0 0 ANY",
        "behind 100 4 ANY", "guard 0 60 0 ANY", "guard 1 1 1 ANY", "fee ANY", "hill 5 ANY", "house 0 3 ANY", "why 0 ANY"};

    private static final String[] ON_A_NEW_ONE = {
        "told 0 0 BAD", "as 0 0 BAD", "turns 0 0 BAD", "set 0 1 1 BAD", "moves 0 1 BAD", "steals 0 BAD", "behind 0 5 BAD",
        "gone 0 BAD", "becomes 0 1 0 BAD", "fine 0 BAD", "textTold 0 0 BAD", "lay 0 1 0 BAD", "trim 1 BAD",
        "prize 0 0 NONE", "prize 1 1 NONE", "why 0 NONE", "why 1 NONE", "why 2 NONE", "house 0 2 NONE", "fits 0 0 NONE",
        "like 0 0 NOTHING", "mark 0 0 0 NOTHING", "pour 0 NOTHING", "reads 0 NOTHING", "copy 0 0 1 0 0 NOTHING",
        "lay 0 2 0 NOTHING", "text -100", "check 1 NO", "check 30 NO", "back NO"};

    private static final String[] ON_AN_ORDINARY_ONE = {
        "roof 0 1 0 0 NO", "roof 0 1 0 5 NO", "roof 5 9 99 6 NO", "roof 6 1 0 0 BAD", "roof 0 0 0 0 BAD", "roof 0 1 100 0 BAD",
        "told 3 0 BAD", "as 3 0 BAD", "as 0 1 KIND", "as 0 5 KIND", "as 1 2 KIND", "as 1 6 BAD", "as 3 6 BAD", "turns 3 0 BAD",
        "set 3 1 1 BAD", "moves 0 0 NO", "moves 0 6 NO", "moves 1 6 NO", "moves 3 0 BAD", "moves 3 12 BAD",
        "steals 2 NO", "steals 3 BAD", "behind 0 8 BAD", "gone 3 BAD", "becomes 3 1 0 BAD", "fine 3 BAD", "textTold 2 0 BAD",
        "trim 12 BAD", "text -111", "why 2 NONE",
        "mark 0 3 1 INDEX", "mark 0 -1 1 INDEX", "mark 0 3 NONE INDEX", "mark 0 0 NONE KIND", "mark 2 0 1 INDEX",
        "mark 1 4 1 INDEX", "mark 1 4 100000 INDEX", "mark 1 0 100000 BAD", "mark 1 0 -100000 BAD", "mark 1 1 MAX BAD",
        "mark 1 MIN MIN INDEX", "mark 0 MAX NONE INDEX",
        "copy 0 0 1 0 1 KIND", "copy 1 0 0 0 1 KIND", "copy 0 0 1 0 0 KIND", "copy 0 -1 1 99 -1 KIND", "copy 0 0 0 1 3 INDEX",
        "copy 0 1 0 0 3 INDEX", "copy 0 -1 0 0 1 INDEX", "copy 0 0 0 -1 1 INDEX", "copy 0 1 0 1 -1 INDEX", "copy 0 4 0 0 0 INDEX",
        "copy 0 0 0 4 0 INDEX", "copy 1 0 2 0 1 INDEX", "copy 2 0 1 0 1 INDEX", "copy 0 MAX 0 MAX MAX INDEX",
        "copy 0 MIN 0 MIN MIN INDEX",
        "lay 1 1 3 BAD", "ask 1 0 ANY", "ask 1 2 KIND", "ask 2 0 KIND", "ask 3 0 KIND", "ask 2 6 BAD", "ask 3 -1 BAD",
        "item 1 0 KIND", "item 3 0 KIND", "item 1 -1 KIND", "item 2 4 INDEX", "item 2 -1 INDEX", "item 2 1 KIND", "item 4 3 INDEX",
        "item 2 MIN INDEX", "item 2 MAX INDEX", "rest 1 5 KIND", "rest 2 5 KIND", "rest 1 0 KIND", "rest 3 0 NO", "rest 5 0 BAD",
        "gone 0 ANY", "gone 1 ANY", "becomes 0 60 0 ANY", "becomes 2 1 1 ANY", "like 0 0 ANY", "like 1 1 ANY", "behind 50 7 ANY",
        "fine 0 ANY", "reads 0 ANY", "reads 1 ANY", "item 2 0 ANY", "rest 3 5 ANY"};

    private static final String[] ON_A_FULL_ONE = {
        "roof 0 1 0 0 NO", "roof 0 1 0 11 NO", "roof 5 9 99 5 NO", "roof 6 1 0 0 BAD", "roof 0 1 0 12 BAD", "moves 0 0 NO",
        "moves 0 11 NO", "moves 11 0 NO", "moves 12 0 BAD", "steals 0 NO", "steals 11 NO", "steals 12 BAD", "loot 0 1 NONE",
        "loot 1 1 NONE", "prize 0 0 NONE", "prize 0 1 NONE", "prize 1 0 NONE", "prize 1 1 NONE", "prize 1 2 BAD",
        "feed 0 0 0 FULL", "feed -1 -1 -1 FULL", "tell 5 FULL", "tell NONE FULL", "text FULL", "trim 97 BAD", "deal 12 0",
        "textTold 14 0 BAD", "behind 0 17 BAD", "behind 100 16 ANY", "gone 11 ANY", "becomes 11 60 1 ANY"};

    // ---- the hills

    private static RoofWar kept() {
        RoofWar x = new RoofWar();
        x.seed(99);
        reads(x, "spite 7");
        reads(x, "fee t*100+w");
        x.roof(0, 3, 20, 0);
        x.roof(3, 9, 50, 6);
        x.lodges(1, 1, 30);
        x.lodges(7, 0, 5);
        x.keep();
        return x;
    }

    private static RoofWar made(int hill, boolean waiting) {
        if (hill == NEW) {
            return new RoofWar();
        }
        RoofWar x = kept();
        RoofWar on = kept();
        int nights = hill == ORDINARY ? 2 : 30;
        for (int i = 0; i < nights && waiting; i++) {
            on.nights(1);
            x.tell(on.hill(0));
            x.tell(on.hill(5));
        }
        x.roof(0, 9, 30, 5);
        if (hill == FULL_OF_ALL) {
            x.deal(12);
            while (x.count(5) < 14) {
                reads(x, "fine " + x.count(5));
            }
        }
        sheetsAndSlots(x);
        puts(x, hill == ORDINARY ? "fine 99+l +" : "fine 99" + " ".repeat(89));
        return x;
    }

    private static void sheetsAndSlots(RoofWar x) {
        x.sheet(0, 0, 3);
        x.sheet(1, 1, 4);
        x.sheet(2, 1, 0);
        for (int k = 0; k < 3; k++) {
            x.mark(0, k, 5 - 6 * k);
            x.mark(1, k, k == 1 ? NONE : 50 + k);
        }
        x.lay(1, 1, 1);
        x.lay(2, 2, 1);
        x.lay(3, 3, -17);
        x.lay(4, 2, 0);
    }

    // ---- all that a hill can be asked

    private static int[] everything(RoofWar x, int nights) {
        List<Integer> all = new ArrayList<>();
        askHill(x, all);
        for (int slot = 0; slot < 5; slot++) {
            askSlot(x, slot, all);
        }
        for (int sheet = 0; sheet < 4; sheet++) {
            all.add(x.lay(4, 0, 0));
            all.add(x.lay(4, 2, sheet));
            askSlot(x, 4, all);
            // of shorts and floats alone, floats may become NO NUMBER
            all.add(x.mark(sheet, 0, NONE));
        }
        all.add(x.check(nights));
        all.add(x.text());
        all.add(x.back());
        askHill(x, all);
        return all.stream().mapToInt(v -> v).toArray();
    }

    private static void askHill(RoofWar x, List<Integer> all) {
        for (int what = 0; what < 9; what++) {
            all.add(x.count(what));
        }
        for (int what = 0; what < 6; what++) {
            all.add(x.hill(what));
        }
        for (int h = 0; h < 12; h++) {
            all.add(x.house(h, 0));
            all.add(x.house(h, 1));
            all.add(x.house(h, 2));
        }
        for (int r = 0; r < x.count(0); r++) {
            for (int what = 0; what < 4; what++) {
                all.add(x.told(r, what));
            }
        }
        for (int text = 0; text < x.count(5); text++) {
            all.add(x.textTold(text, 0));
            all.add(x.textTold(text, 1));
        }
        all.add(x.fee());
        all.add(x.fine(0));
    }

    private static void askSlot(RoofWar x, int slot, List<Integer> all) {
        int worth = x.ask(slot, 0);
        int rest = x.rest(slot, 1000);
        all.add(worth);
        all.add(rest);
        if (worth == KIND && rest == KIND) {
            int answer = 0;
            for (int place = 0; place < 25 && answer != INDEX; place++) {
                answer = x.item(slot, place);
                all.add(answer);
            }
        }
    }

    // ---- the rows

    private static int number(String word) {
        switch (word) {
            case "MIN": return Integer.MIN_VALUE;
            case "MAX": return Integer.MAX_VALUE;
            case "BAD": return BAD;
            case "NO": return NO;
            case "FULL": return FULL;
            case "NONE": return NONE;
            case "NOTHING": return NOTHING;
            case "KIND": return KIND;
            case "INDEX": return INDEX;
            case "SIZE": return SIZE;
            case "ANY": return ANY;
            default: return Integer.parseInt(word);
        }
    }

    private static void refused(int hill, String row) {
        Matcher m = Pattern.compile("(\\w+)((?: [-\\w]+)*) ([-\\w]+)").matcher(row);
        if (!m.matches()) {
            due("a row that can be read: " + row, 0, 1);
            return;
        }
        String call = m.group(1);
        int[] given = Arrays.stream(m.group(2).trim().split(" ")).filter(w -> !w.isEmpty())
            .mapToInt(RoofWarRefusals::number).toArray();
        RoofWar asked = made(hill, true);
        int got = answerOf(asked, call, given);
        if (number(m.group(3)) != ANY) {
            due("hill " + hill + ": " + row, got, number(m.group(3)));
        }
        // a check uses up the numbers that wait, a text the tape, whatever they answer
        RoofWar not = made(hill, !call.equals("check"));
        if (call.equals("text")) {
            not.trim(0);
        }
        int nights = hill == FULL_OF_ALL ? 30 : 2;
        int[] now = everything(asked, nights);
        int[] was = everything(not, nights);
        due("hill " + hill + ": " + row + ": so many answers", now.length, was.length);
        for (int i = 0; i < Math.min(now.length, was.length); i++) {
            due("hill " + hill + ": " + row + " changed something: answer " + i, now[i], was[i]);
        }
    }

    private static void rows(int hill, String[] own) {
        for (String row : ON_ANY) {
            refused(hill, row);
        }
        for (String row : own) {
            refused(hill, row);
        }
    }

    /** The numbers that wait are those due, so that a change of one would be seen. */
    private static void hillsAreAsMeant() {
        RoofWar x = made(ORDINARY, true);
        due("numbers wait", x.count(6), 4);
        due("they are due", x.check(2), 0);
        due("bytes", x.count(7), 11);
        x = made(FULL_OF_ALL, true);
        due("roofs", x.count(0), 12);
        due("texts", x.count(5), 14);
        due("numbers wait", x.count(6), 60);
        due("they are due", x.check(30), 0);
        due("bytes", x.count(7), 96);
    }

    public static void main(String[] args) {
        hillsAreAsMeant();
        rows(NEW, ON_A_NEW_ONE);
        rows(ORDINARY, ON_AN_ORDINARY_ONE);
        rows(FULL_OF_ALL, ON_A_FULL_ONE);
        end();
    }
}
