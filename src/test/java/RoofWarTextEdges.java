// The edges that ../shared/DOC.md names in section 4 and promises 24 to 30, sentence by sentence, in its order.
public final class RoofWarTextEdges extends Due {
    private static final String[] KEYS = {"spite", "fee", "fine"};
    private static final String[] NAMES = {"lsn", "tw", "sl"};

    /** What text() is due for a FAULT at that place. */
    private static int at(int place) {
        return -100 - place;
    }

    private static void textIs(String letters, int want) {
        due("text '" + letters + "'", reads(new RoofWar(), letters), want);
    }

    private static void goesOn(String letters) {
        textIs(letters, 0);
    }

    // ---- "TEXTS, 14 at most, numbered from 0, from THE TAPE (96 bytes at most ..)"

    private static void howManyTexts() {
        RoofWar x = new RoofWar();
        for (int i = 0; i < 14; i++) {
            due("text " + i, reads(x, KEYS[i % 3] + " " + i), i);
            due("so many", x.count(5), i + 1);
        }
        due("a fifteenth", reads(x, "fee 99"), FULL);
        due("the tape is used up all the same", x.count(7), 0);
        due("a fifteenth with a fault: the fault stands first", reads(x, "fee 99 9"), at(7));
        due("a fifteenth without a tape", x.text(), at(0));
        due("fourteen", x.count(5), 14);
        due("fee as it was", x.fee(), 13);
        for (int i = 0; i < 14; i++) {
            due("key of text " + i, x.textTold(i, 0), i % 3);
        }
    }

    private static void howManyBytes() {
        RoofWar x = new RoofWar();
        due("no bytes at first", x.count(7), 0);
        for (int i = 1; i <= 8; i++) {
            due("feed " + i, x.feed(0x20202020, 0x20202020, 0x20202020), 12 * i);
        }
        due("more than 96", x.feed(0, 0, 0), FULL);
        due("96 blanks: the end", x.text(), at(96));
        String full = "fee " + "1+".repeat(45) + "1 ";
        due("a text of all 96 bytes", reads(x, full), 0);
        due("of 46 numbers", x.textTold(0, 1), 46);
        due("it gives", x.fee(), 46);
        due("96 bytes and the end too soon", reads(x, "fee  " + "1+".repeat(45) + "+"), at(95));
        due("96 bytes and the end too soon", reads(x, "fee " + "1+".repeat(46)), at(96));
        for (int bytes = 84; bytes <= 96; bytes++) {
            x = new RoofWar();
            for (int i = 0; i < 8; i++) {
                x.feed(0x20202020, 0x20202020, 0x20202020);
            }
            x.trim(bytes);
            due("feed behind " + bytes, x.feed(0, 0, 0), bytes == 84 ? 96 : FULL);
            due("bytes then", x.count(7), bytes == 84 ? 96 : bytes);
            due("a byte 0 came, or none did", x.text(), bytes == 84 ? at(84) : at(bytes));
        }
    }

    /** "an act that reads it uses it up, whatever it answers". */
    private static void usedUp() {
        RoofWar x = new RoofWar();
        due("a text", reads(x, "fee 1"), 0);
        due("used up", x.count(7), 0);
        due("nothing left", x.text(), at(0));
        due("a fault", reads(x, "fee ) 1"), at(4));
        due("used up by a fault", x.count(7), 0);
        due("none came by a fault", x.count(5), 1);
        // what a text leaves behind that stopped at a word, or within brackets and nots, is nothing to the next one
        due("a fault at a name", reads(x, "fee 1+2+x"), at(8));
        due("a text right behind it", reads(x, "fee 3"), 1);
        due("its numbers alone", x.textTold(1, 1), 1);
        due("a fault at a number", reads(x, "fee 1 2"), at(6));
        due("a text right behind it", reads(x, "fine 4"), 2);
        due("a fault within all brackets and nots", reads(x, "fee ((((((((!!!!!!!!x"), at(20));
        due("all brackets and nots", reads(x, "fee ((((((((!!!!!!!!5))))))))"), 3);
        due("it gives", x.fee(), 1);
        due("a fault behind a not", reads(x, "fee !6 6"), at(7));
        due("a text right behind it", reads(x, "fee 6"), 4);
        due("it gives", x.fee(), 6);
    }

    // ---- "KEY E. KEY: spite | fee | fine."

    private static void keys() {
        for (int key = 0; key < 3; key++) {
            RoofWar x = new RoofWar();
            due(KEYS[key], reads(x, KEYS[key] + " 1"), 0);
            due("key of " + KEYS[key], x.textTold(0, 0), key);
            textIs(KEYS[key], at(KEYS[key].length()));
            textIs(KEYS[key] + " ", at(KEYS[key].length() + 1));
            textIs(KEYS[key].substring(1) + " 1", at(0));
            for (int i = 0; i < KEYS[key].length(); i++) {
                textIs(KEYS[key].substring(0, i) + "x" + KEYS[key].substring(i + 1) + " 1", at(0));
            }
            textIs(KEYS[key] + "s 1", at(0));
            textIs(KEYS[key] + "1", at(KEYS[key].length()));
            textIs(KEYS[key] + KEYS[key] + " 1", at(0));
            textIs(KEYS[key] + " " + KEYS[key], at(KEYS[key].length() + 1));
            goesOn(KEYS[key] + "!1");
            goesOn(KEYS[key] + "(1)");
        }
        textIs("1", at(0));
        textIs("t", at(0));
        textIs("+", at(0));
        textIs("FEE 1", at(0));
        textIs("fe e 1", at(0));
    }

    /** "E, the loosest first: OR .. AND .. TEST .. SUM .. TERM .. PIECE". */
    private static void levels() {
        String[] texts = {
            "1|1&0", "0&1|1", "1|0|0", "1&0=0", "0=1&0", "1=1|0", "2=1+1", "1+1=2", "3>1+1", "1+1<3", "1+2*3", "2*3+1",
            "9-4/2", "9/3-1", "!0*5", "!1+5", "3-!0", "!0=1", "!(0*5)", "(1|1)&0", "0=(1&0)", "(1=1)+1", "2*(3+1)", "1-2-3", "24/4/2",
            "24/4*2", "9-4+2", "(1<2)<3", "1<2&2<1", "1<2|2<1", "7=7", "7=8", "7<8", "8<7", "7<7", "8>7", "7>8", "7>7"};
        int[] want = {
            1, 1, 1, 1, 0, 1, 1, 1, 1, 1, 7, 7, 7, 2, 5, 5, 2, 1, 1, 0, 1, 2, 8, -4, 3, 12, 7, 1, 0, 1, 1, 0, 1, 0, 0, 1, 0, 0};
        for (int i = 0; i < texts.length; i++) {
            due("fee " + texts[i], fee(texts[i]), want[i]);
        }
    }

    /** "TEST: SUM [ (< | = | >) SUM ]": once, but for brackets, & and |. */
    private static void oneTest() {
        for (char a : "<=>".toCharArray()) {
            for (char b : "<=>".toCharArray()) {
                textIs("fee 1" + a + "2" + b + "3", at(7));
                goesOn("fee (1" + a + "2)" + b + "3");
                goesOn("fee 1" + a + "(2" + b + "3)");
                goesOn("fee 1" + a + "2&3" + b + "4|5" + a + "6");
            }
        }
        textIs("fee 1<=2", at(6));
        textIs("fee 1<", at(6));
    }

    /** "PIECE: NUMBER (1 to 4 digits) | NAME | ! PIECE | ( E )". */
    private static void pieces() {
        due("one digit", fee("7"), 7);
        due("four digits", fee("9999"), 9999);
        due("noughts ahead", fee("0042"), 42);
        textIs("fee 10000", at(4));
        textIs("fee 00000", at(4));
        textIs("fee 1+12345", at(6));
        textIs("fee 123456789012", at(4));
        textIs("fee ()", at(5));
        textIs("fee )", at(4));
        textIs("fee (1", at(6));
        textIs("fee (1))", at(7));
        textIs("fee (1 2)", at(7));
        textIs("fee !", at(5));
        textIs("fee !)", at(5));
        textIs("fee 1!", at(5));
        textIs("fee 1(2)", at(5));
        textIs("fee (1)(2)", at(7));
        textIs("fee -1", at(4));
        textIs("fee 1--1", at(6));
        for (char sign : "|&<=>+-*/".toCharArray()) {
            textIs("fee " + sign + "1", at(4));
            textIs("fee 1" + sign, at(6));
            textIs("fee 1 " + sign + " )", at(8));
            textIs("fee (1" + sign + ")", at(7));
            textIs("fee !" + sign + "1", at(5));
            goesOn("fee 1" + sign + "1");
            goesOn("fee !1" + sign + "!(1)");
        }
    }

    /** "NAMES, each one letter: of spite l, s, n; of fee t, w; of fine s, l". */
    private static void names() {
        for (int key = 0; key < 3; key++) {
            for (char c = 'a'; c <= 'z'; c++) {
                textIs(KEYS[key] + " " + c, NAMES[key].indexOf(c) >= 0 ? 0 : at(KEYS[key].length() + 1));
            }
            for (char c : NAMES[key].toCharArray()) {
                textIs(KEYS[key] + " " + c + c, at(KEYS[key].length() + 1));
                textIs(KEYS[key] + " 1+" + c + "x", at(KEYS[key].length() + 3));
                textIs(KEYS[key] + " " + c + " " + c, at(KEYS[key].length() + 3));
                textIs(KEYS[key] + " " + c + "1", at(KEYS[key].length() + 2));
                textIs(KEYS[key] + " 1" + c, at(KEYS[key].length() + 2));
            }
        }
    }

    /** What each name stands for, and what is due "without a TEXT". */
    private static void whatNamesGive() {
        RoofWar x = atNight(7);
        x.roof(3, 4, 21, 0);
        x.roof(0, 9, 99, 1);
        due("fee without a text", x.fee(), 0);
        due("fine without a text", x.fine(0), 21);
        due("fine of the other one", x.fine(1), 99);
        x.steals(0);
        due("fee without a text: STOLEN", x.fee(), 1);
        due("spite without a text: 5", x.told(0, 2), 26);
        reads(x, "fee t");
        due("t is STOLEN", x.fee(), 1);
        reads(x, "fee w");
        due("w is WET", x.fee(), x.hill(2));
        reads(x, "fine s");
        due("s is SIZED", x.fine(0), 4);
        due("s of the other one", x.fine(1), 9);
        reads(x, "fine l");
        due("l is LEAK", x.fine(0), 26);
        reads(x, "spite l");
        x.steals(0);
        due("l is LEAK, as it was", x.told(0, 2), 52);
        reads(x, "spite s");
        x.steals(0);
        due("s is SIZED in spite", x.told(0, 2), 56);
        reads(x, "spite n");
        x.steals(0);
        due("n is THE NIGHT", x.told(0, 2), 63);
        due("fine of roof 2", x.fine(2), BAD);
        due("fine of roof -1", x.fine(-1), BAD);
        due("fee may be below 0", reads(x, "fee 0-t"), 7);
        due("below 0", x.fee(), -4);
        due("fine may be above 99", reads(x, "fine s*1000"), 8);
        due("above 99", x.fine(1), 9000);
    }

    // ---- "A word is a row of letters a .. z, or of digits, as long as it goes; any other byte is a sign by itself."

    private static void everyByte() {
        for (char c = 0; c < 256; c++) {
            boolean digit = c >= '0' && c <= '9';
            boolean opens = c == '!' || c == '(';
            boolean joins = "|&<=>+-*/".indexOf(c) >= 0;
            textIs("" + c, at(c == ' ' ? 1 : 0));
            textIs("fee " + c, digit || c == 't' || c == 'w' ? 0 : at(opens || c == ' ' ? 5 : 4));
            textIs("fee 1" + c, digit || c == ' ' ? 0 : at(joins ? 6 : 5));
            textIs("fee" + c + "1", c == ' ' || c == '!' ? 0 : at(c == '(' ? 5 : c >= 'a' && c <= 'z' ? 0 : 3));
            textIs(c + "fee 1", c == ' ' ? 0 : at(0));
        }
    }

    /** "there may be blanks (byte 32); a word right behind another one needs one." */
    private static void blanks() {
        goesOn("   fee   (   1   +   t   )   ");
        goesOn("fee(1+t)");
        goesOn("fee !t");
        goesOn("fee 1");
        textIs("fee1", at(3));
        textIs("fee 1t", at(5));
        textIs("fee t1", at(5));
        textIs("fee 1 t", at(6));
        textIs("fee12345", at(3));
        textIs("fe e 1", at(0));
        textIs("fee 1 2", at(6));
        textIs("fee 12 34", at(7));
        textIs("", at(0));
        textIs(" ", at(1));
        textIs("fee\t1", at(3));
        textIs("fee\n1", at(3));
        textIs("fee\u00a01", at(3));
        textIs("fee 1\u0000", at(5));
    }

    /** "the end (the place behind the last byte), if it comes too soon." */
    private static void theEnd() {
        String whole = "  fee ( 1 + ! ( t * 22 ) )  ";
        goesOn(whole);
        // behind the last bracket it may end; ahead of it the end comes too soon, but a key cut short is a word that is none
        for (int length = 0; length < whole.length(); length++) {
            int want = length >= 26 ? 0 : length == 3 || length == 4 ? at(2) : at(length);
            textIs(whole.substring(0, length), want);
        }
    }

    /** "the ninth ( that would be open within others, the ninth ! likewise, each by itself". */
    private static void theNinth() {
        for (int many = 1; many <= 12; many++) {
            textIs("fee " + "(".repeat(many) + "t" + ")".repeat(many), many <= 8 ? 0 : at(12));
            textIs("fee " + "!".repeat(many) + "t", many <= 8 ? 0 : at(12));
            textIs("fee " + "!(".repeat(many) + "t" + ")".repeat(many), many <= 8 ? 0 : at(20));
        }
        goesOn("fee ((((((((!!!!!!!!t))))))))");
        goesOn("fee !!!!!!!!((((((((t))))))))");
        textIs("fee ((((((((!!!!!!!!!t))))))))", at(20));
        textIs("fee !!!!!!!!(((((((((t)))))))))", at(20));
        textIs("fee !!!!(!!!!(!t))", at(14));
        goesOn("fee ((((((((t))))))))*((((((((t))))))))");
        goesOn("fee !!!!!!!!t-!!!!!!!!t");
        goesOn("fee !!!!!!!!(t)+!(t)");
        goesOn("fee (!!!!!!!!t)&!t");
        textIs("fee (t)+(((((((((t", at(16));
        due("eight nots", fee("!!!!!!!!7"), 1);
        due("seven nots", fee("!!!!!!!7"), 0);
        due("eight brackets", fee("((((((((7))))))))+1"), 8);
    }

    // ---- "Ints wrap; / is 0 by 0; tests, & | ! give 1 or 0 (what is not 0 is true; both sides are worked out)."

    private static void ints() {
        due("the most and one", fee("8192*8192*32-1+1"), Integer.MIN_VALUE);
        due("the most", fee("8192*8192*32-1"), Integer.MAX_VALUE);
        due("the least less one", fee("8192*8192*32-1"), Integer.MAX_VALUE);
        due("a product goes round", fee("9999*9999*9999"), -1027349969);
        due("twice the least", fee("8192*8192*32*2"), 0);
        due("the least by -1", fee("8192*8192*32/(0-1)"), Integer.MIN_VALUE);
        due("by 0", fee("5/0"), 0);
        due("by what comes to 0", fee("5/(3-3)+7"), 7);
        due("0 by 0", fee("0/0"), 0);
        due("below 0 is true", fee("!(0-5)"), 0);
        due("below 0 & is true", fee("(0-5)&7"), 1);
        due("below 0 | is true", fee("0|(0-5)"), 1);
        due("0 | 0", fee("0|0"), 0);
        due("5 & 0", fee("5&0"), 0);
        due("0 & 5", fee("0&5"), 0);
        due("5 | 0", fee("5|0"), 1);
        due("! of 0", fee("!0"), 1);
        due("! of ! of 5", fee("!!5"), 1);
        due("a test below 0", fee("0-1<0"), 1);
        due("the least is below the most", fee("8192*8192*32<8192*8192*32-1"), 1);
        due("both sides are worked out, by 0 too", fee("1|5/0"), 1);
    }

    /** "Of a KEY that TEXT counts that was told last." "The TEXT that counts for a KEY. BAD; NONE." */
    private static void whichCounts() {
        RoofWar x = new RoofWar();
        for (int key = 0; key < 3; key++) {
            due("none of key " + key, x.why(key), NONE);
        }
        due("why -1", x.why(-1), BAD);
        due("why 3", x.why(3), BAD);
        reads(x, "fee 10");
        due("of key 0 none yet", x.why(0), NONE);
        due("of key 2 none yet", x.why(2), NONE);
        reads(x, "fee 11");
        reads(x, "fine 12");
        due("the last of fee", x.why(1), 1);
        due("fee", x.fee(), 11);
        due("a fault counts for nothing", reads(x, "fee 13 +"), at(8));
        due("fee as it was", x.fee(), 11);
        due("why as it was", x.why(1), 1);
        x.keep();
        reads(x, "fee 14");
        due("the new one", x.why(1), 3);
        x.back();
        due("back: the old one", x.why(1), 1);
        due("back: fee", x.fee(), 11);
        due("its number is free again", reads(x, "spite 15"), 3);
        due("its key", x.textTold(3, 0), 0);
        due("fee still", x.fee(), 11);
        x.back();
        due("spite is gone", x.why(0), NONE);
    }

    // ---- promises 26 to 29

    /** "Twelve bytes come to THE TAPE, the highest of each number first". */
    private static void feed() {
        RoofWar x = new RoofWar();
        due("fee 1234+5+6", x.feed(0x66656520, 0x31323334, 0x2b352b36), 12);
        due("read", x.text(), 0);
        due("it gives", x.fee(), 1245);
        due("bytes above 127", x.feed(0x66656520, 0x312b3180, 0xffffffff), 12);
        due("are signs", x.text(), at(7));
        due("feed", x.feed(0x66656520, 0x31202020, 0x20202020), 12);
        due("more behind it", x.feed(0x2b322020, 0x20202020, 0x20202020), 24);
        due("read", x.text(), 1);
        due("1 and 2", x.fee(), 3);
    }

    /** "THE TAPE keeps its first n bytes: n. BAD." */
    private static void trim() {
        RoofWar x = new RoofWar();
        due("trim 0 of none", x.trim(0), 0);
        due("trim 1 of none", x.trim(1), BAD);
        due("trim -1 of none", x.trim(-1), BAD);
        x.feed(0x66656520, 0x31323334, 0x2b352b36);
        due("trim 13 of 12", x.trim(13), BAD);
        due("trim -1 of 12", x.trim(-1), BAD);
        due("trim 96 of 12", x.trim(96), BAD);
        due("still 12", x.count(7), 12);
        due("trim 12 of 12", x.trim(12), 12);
        due("trim to 10", x.trim(10), 10);
        due("bytes", x.count(7), 10);
        due("trim to 6", x.trim(6), 6);
        due("trim 7 of 6", x.trim(7), BAD);
        x.feed(0x2b372020, 0x20202020, 0x20202020);
        due("fee 12+7", x.text(), 0);
        due("19", x.fee(), 19);
    }

    /** "Of a TEXT: what 0 KEY (..), 1 how many NUMBERS and NAMES it has. BAD." */
    private static void textTold() {
        RoofWar x = new RoofWar();
        due("no text yet", x.textTold(0, 0), BAD);
        reads(x, "fine !(l+l*22)|s<0000");
        due("key", x.textTold(0, 0), 2);
        due("numbers and names", x.textTold(0, 1), 5);
        reads(x, "spite ((7))");
        due("one number", x.textTold(1, 1), 1);
        due("what -1", x.textTold(0, -1), BAD);
        due("what 2", x.textTold(0, 2), BAD);
        due("text -1", x.textTold(-1, 0), BAD);
        due("text 2", x.textTold(2, 0), BAD);
        for (int v : BOTH_ENDS) {
            due("text " + v, x.textTold(v, 0), BAD);
            due("what " + v, x.textTold(0, v), BAD);
            due("why " + v, x.why(v), BAD);
            due("trim " + v, x.trim(v), BAD);
        }
    }

    public static void main(String[] args) {
        howManyTexts();
        howManyBytes();
        usedUp();
        keys();
        levels();
        oneTest();
        pieces();
        names();
        whatNamesGive();
        everyByte();
        blanks();
        theEnd();
        theNinth();
        ints();
        whichCounts();
        feed();
        trim();
        textTold();
        end();
    }
}
