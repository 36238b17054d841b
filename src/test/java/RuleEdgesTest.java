/** The boundary cases of Terms V: TAPE, TOKENS, RULES, FAULT, CLAIMS and how they are JUDGED. */
public final class RuleEdgesTest {
    private static final Due due = new Due();

    private RuleEdgesTest() {
    }

    public static void main(String[] args) {
        feedTwenty();
        feedHighestFirst();
        feedNoMoreThan200();
        endFirstBytes();
        blanks();
        blanksAlone();
        tokensOfLetters();
        tokensOfDigits();
        singleBytes();
        numbersTo100();
        numbersThatWrap();
        faultInEachForm();
        faultAtTheEnd();
        faultBetweenRules();
        twentyRules();
        textOf200();
        tapeIsEmptyThen();
        rulesStay();
        rulesAreReplaced();
        faultOfTheLatest();
        judgedWithout();
        judgedAtItsPlace();
        judgedByItsRadar();
        judgedByItsOwn();
        judgedNoMap();
        judgedRadarOff();
        judgedLastRadarOff();
        judgedGreatestLoss();
        judgedFromSize();
        judgedSure();
        judgedAmongOthers();
        judgedSaid();
        judgedBear();
        judgedCut();
        judgedOfAnHour();
        due.close();
    }

    private static void good(String text, int count) {
        HailPads pads = new HailPads();
        due.is("rules of '" + text + "'", Texts.rules(pads, text), count);
        due.is("FAULT of '" + text + "'", pads.fault(), -1);
        due.is("count after '" + text + "'", pads.count(2), count);
        due.is("status after '" + text + "'", pads.status(), 0);
        due.is("TAPE after '" + text + "'", pads.count(4), 0);
    }

    private static void bad(String text, int place) {
        HailPads pads = new HailPads();
        due.is("rules of '" + text + "'", Texts.rules(pads, text), -6);
        due.is("FAULT of '" + text + "'", pads.fault(), place);
        due.is("count after '" + text + "'", pads.count(2), 0);
        due.is("status after '" + text + "'", pads.status(), -6);
        due.is("TAPE after '" + text + "'", pads.count(4), 0);
    }

    /** Three BOARDS of a SIZE at one place, so that the MAP there is that SIZE, SURE 100. */
    private static HailPads sized(int size) {
        HailPads pads = new HailPads();
        pads.table(7, 1, size);
        for (int b = 0; b < 3; b++) {
            pads.dent(pads.board(8, 8), 0, 0, 1, 0);
        }
        return pads;
    }

    /** What a CLAIM of 100 for all of it, at the place of three BOARDS of a SIZE, is JUDGED. */
    private static int judged(int size, String rules) {
        HailPads pads = sized(size);
        pads.claim(8, 8, 100, 100);
        Texts.rules(pads, rules);
        return pads.judged(0, 0);
    }

    private static void feedTwenty() {
        due.promise("15 feed: twenty bytes come behind the TAPE: how many it has");
        HailPads pads = new HailPads();
        due.is("the first", pads.feed(0, 0, 0, 0, 0), 20);
        due.is("count", pads.count(4), 20);
        due.is("the second", pads.feed(-1, -1, -1, -1, -1), 40);
        pads.end(3);
        due.is("behind three", pads.feed(0, 0, 0, 0, 0), 23);
        due.is("count", pads.count(4), 23);
    }

    private static void feedHighestFirst() {
        due.promise("15 feed: four of each number, the highest first");
        HailPads pads = new HailPads();
        // "bear", " 12;", "bear", " 34;", "x   "
        due.is("feed", pads.feed(0x62656172, 0x2031323B, 0x62656172, 0x2033343B, 0x78202020), 20);
        due.is("the fifth number's first byte", pads.rules(), -6);
        due.is("its place", pads.fault(), 16);
        pads.feed(0x62656172, 0x2031323B, 0x62656172, 0x2033343B, 0x62656172);
        pads.feed(0x20350000, 0, 0, 0, 0);
        due.is("end", pads.end(22), 22);
        due.is("three", pads.rules(), 3);
        for (int shift = 0; shift < 32; shift += 8) {
            HailPads one = new HailPads();
            // one byte of the first number is 255, the others are blanks
            one.feed(0x20202020 | 255 << shift, 0x20202020, 0x20202020, 0x20202020, 0x20202020);
            due.is("byte 255", one.rules(), -6);
            due.is("its place", one.fault(), 3 - shift / 8);
        }
    }

    private static void feedNoMoreThan200() {
        due.promise("15 feed: NONE, if there would be more than 200");
        int[] lengths = {0, 1, 100, 179, 180, 181, 199, 200};
        for (int length : lengths) {
            HailPads pads = new HailPads();
            Texts.feed(pads, " ".repeat(length));
            int answer = length <= 180 ? length + 20 : -1;
            due.is("behind " + length, pads.feed(0x78787878, 0x78787878, 0x78787878, 0x78787878, 0x78787878), answer);
            due.is("the TAPE then", pads.count(4), Math.max(length, answer));
            due.is("feed is no call that status tells of", pads.status(), 0);
            due.is("rules", pads.rules(), length <= 180 ? -6 : 0);
            due.is("FAULT", pads.fault(), length <= 180 ? length : -1);
        }
    }

    private static void endFirstBytes() {
        due.promise("16 end: the TAPE has its first n bytes alone");
        String text = "bear 1;bear 2;bear 3";
        int[] lengths = {0, 5, 6, 7, 13, 14, 19, 20};
        int[] counts = {0, -6, 1, -6, 2, -6, -6, 3};
        for (int k = 0; k < lengths.length; k++) {
            HailPads pads = new HailPads();
            Texts.feed(pads, text);
            due.is("end", pads.end(lengths[k]), lengths[k]);
            due.is("count", pads.count(4), lengths[k]);
            due.is("no way back", pads.end(lengths[k] + 1), -1);
            due.is("rules of " + lengths[k], pads.rules(), counts[k]);
        }
        HailPads pads = new HailPads();
        due.is("0 of an empty TAPE", pads.end(0), 0);
        due.is("1 of an empty TAPE", pads.end(1), -1);
        due.is("-1 of an empty TAPE", pads.end(-1), -1);
        Texts.feed(pads, text);
        pads.end(6);
        due.is("the bytes behind it come anew", pads.feed(0x20202020, 0x20202020, 0x20202020, 0x20202020, 0x2020203B), 26);
        due.is("cut", pads.end(25), 25);
        due.is("nothing of the old ones is left", pads.rules(), 1);
    }

    private static void blanks() {
        due.promise("V: any blanks (32) between TOKENS");
        good("loss 1 from 2 sure 3;radar off 4;bear 5", 3);
        good("loss1from2sure3;radar off4;bear5", 3);
        good("   loss   1   from   2   sure   3   ;   radar   off   4   ;   bear   5   ", 3);
        good("bear 5 ", 1);
        good(" bear 5", 1);
        bad("bear" + (char) 31 + "5", 4);
        bad("bear" + (char) 33 + "5", 4);
        bad("bear" + (char) 9 + "5", 4);
        bad("bear" + (char) 10 + "5", 4);
        bad("bear" + (char) 0 + "5", 4);
        bad("bear" + (char) 160 + "5", 4);
        bad("bear 5" + (char) 0, 6);
        bad("be ar 5", 0);
        bad("bear 5 5", 7);
        bad("radaroff 5", 0);
        bad("lossfrom", 0);
    }

    private static void blanksAlone() {
        due.promise("17 rules: blanks alone: none");
        good("", 0);
        good(" ", 0);
        good(" ".repeat(200), 0);
        HailPads pads = new HailPads();
        Texts.rules(pads, "bear 5");
        due.is("an empty TAPE", pads.rules(), 0);
        due.is("no RULES any more", pads.count(2), 0);
        bad(";", 0);
        bad("  ;  ", 2);
    }

    private static void tokensOfLetters() {
        due.promise("V: TOKENS: longest rows of letters a .. z");
        bad("beara 5", 0);
        bad("bearz 5", 0);
        bad("abear 5", 0);
        bad("zbear 5", 0);
        // the bytes beside a and z, A and Z are no letters
        bad("bear` 5", 4);
        bad("bear{ 5", 4);
        bad("bearA 5", 4);
        bad("bearZ 5", 4);
        bad("`bear 5", 0);
        bad("{bear 5", 0);
        bad("Bear 5", 0);
        bad("BEAR 5", 0);
        bad("loss 5 fro", 7);
        bad("loss 5 froma 5", 7);
        bad("loss 5 from 5 sur 5", 14);
        bad("loss 5 from 5 surea 5", 14);
        bad("radar of 5", 6);
        bad("radar offa 5", 6);
        bad("rada off 5", 0);
        bad("los 5 from 5", 0);
        bad("lossa 5 from 5", 0);
    }

    private static void tokensOfDigits() {
        due.promise("V: TOKENS: longest rows of digits");
        for (int digit = 0; digit <= 9; digit++) {
            good("bear " + digit, 1);
            good("bear 0" + digit + ";bear " + digit + "0", 2);
        }
        // the bytes beside 0 and 9 are no digits
        bad("bear 5/", 6);
        bad("bear 5:", 6);
        bad("bear /5", 5);
        bad("bear :5", 5);
        bad("bear 5x", 6);
        bad("bear 5 0", 7);
        bad("loss 1 0 from 5", 7);
    }

    private static void singleBytes() {
        due.promise("V: TOKENS: single other bytes");
        bad("bear 5;;bear 5", 7);
        bad("bear 5; ;bear 5", 8);
        bad("bear -5", 5);
        bad("bear +5", 5);
        bad("bear 5.5", 6);
        bad("bear 5,bear 5", 6);
        for (int sign : new int[] {0, 1, 31, 127, 128, 200, 255}) {
            bad((char) sign + "bear 5", 0);
            bad("bear 5;" + (char) sign, 7);
        }
        good("bear 5;bear 5", 2);
        good("bear5;bear5", 2);
    }

    private static void numbersTo100() {
        due.promise("V: NUMBERS to 100, SIZES to 100");
        String[] ahead = {"loss ", "loss 1 from ", "loss 1 from 1 sure ", "radar off ", "bear "};
        String[] behind = {" from 1", "", "", "", ""};
        for (int k = 0; k < ahead.length; k++) {
            good(ahead[k] + "0" + behind[k], 1);
            good(ahead[k] + "99" + behind[k], 1);
            good(ahead[k] + "100" + behind[k], 1);
            good(ahead[k] + "000100" + behind[k], 1);
            bad(ahead[k] + "101" + behind[k], ahead[k].length());
            bad(ahead[k] + "000101" + behind[k], ahead[k].length());
            bad(ahead[k] + "110" + behind[k], ahead[k].length());
            bad(ahead[k] + "200" + behind[k], ahead[k].length());
            bad(ahead[k] + "1000" + behind[k], ahead[k].length());
        }
    }

    private static void numbersThatWrap() {
        due.promise("V: NUMBERS to 100, however long");
        String[] ahead = {"loss ", "loss 1 from ", "loss 1 from 1 sure ", "radar off ", "bear "};
        // 2 to the 32nd, to the 64th, and a little more
        String[] wraps = {"2147483647", "2147483648", "4294967295", "4294967296", "4294967297", "4294967396",
            "18446744073709551615", "18446744073709551616", "18446744073709551716", "9223372036854775808",
            "340282366920938463463374607431768211456", "1" + "0".repeat(150)};
        for (String start : ahead) {
            for (String wrap : wraps) {
                bad(start + wrap, start.length());
            }
        }
        good("bear " + "0".repeat(195), 1);
        good("bear " + "0".repeat(192) + "100", 1);
        bad("bear " + "0".repeat(192) + "101", 5);
        bad("bear " + "9".repeat(195), 5);
    }

    private static void faultInEachForm() {
        due.promise("V: FAULT: the first TOKEN that can't go on there");
        bad("x", 0);
        bad("5", 0);
        bad("from 5", 0);
        bad("sure 5", 0);
        bad("off 5", 0);
        bad("loss from 5", 5);
        bad("loss ; bear 1", 5);
        bad("loss 5 5", 7);
        bad("loss 5 sure 5", 7);
        bad("loss 5; bear 1", 6);
        bad("loss 5 from from", 12);
        bad("loss 5 from ; bear 1", 12);
        bad("loss 5 from 5 5", 14);
        bad("loss 5 from 5 from 5", 14);
        bad("loss 5 from 5 bear 5", 14);
        bad("loss 5 from 5 sure sure", 19);
        bad("loss 5 from 5 sure ;", 19);
        bad("loss 5 from 5 sure 5 5", 21);
        bad("loss 5 from 5 sure 5 sure 5", 21);
        bad("radar 5", 6);
        bad("radar radar", 6);
        bad("radar off off", 10);
        bad("radar off ; bear 1", 10);
        bad("radar off 5 5", 12);
        bad("radar off 5 sure 5", 12);
        bad("bear bear", 5);
        bad("bear ;", 5);
        bad("bear 5 sure 5", 7);
        bad("bear 5 from 5", 7);
        bad("bear x 101 y", 5);
    }

    private static void faultAtTheEnd() {
        due.promise("V: FAULT: the end's: the TEXT's length");
        String[] cut = {"loss", "loss 5", "loss 5 from", "loss 5 from 5 sure", "radar", "radar off", "bear",
            "bear 5;", "loss 5 from 5;", "radar off 5;"};
        for (String text : cut) {
            bad(text, text.length());
            bad(text + " ", text.length() + 1);
            bad(text + "     ", text.length() + 5);
            bad("bear 5 ; " + text, text.length() + 9);
        }
        good("loss 5 from 5", 1);
        good("loss 5 from 5 sure 5", 1);
        good("radar off 5", 1);
        good("bear 5", 1);
    }

    private static void faultBetweenRules() {
        due.promise("V: RULE {\";\" RULE}");
        bad("bear 5 bear 5", 7);
        bad("bear 5 loss 5 from 5", 7);
        bad("radar off 5 radar off 5", 12);
        bad("bear 5:bear 5", 6);
        bad(";bear 5", 0);
        bad("bear 5; x", 8);
        bad("bear 5; bear 101; x", 13);
        bad("bear 5; 5", 8);
        good("bear 5;loss 5 from 5;radar off 5;bear 5;loss 1 from 1 sure 1", 5);
    }

    private static void twentyRules() {
        due.promise("V: 20 RULES at most (the 21st's first TOKEN)");
        String[] rules = {"bear 1", "bear1", " bear 1 "};
        for (String rule : rules) {
            String nineteen = rule + (";" + rule).repeat(18);
            String twenty = nineteen + ";" + rule;
            int first = rule.indexOf("bear");
            good(nineteen, 19);
            good(twenty, 20);
            bad(twenty + ";" + rule, twenty.length() + 1 + first);
            bad(twenty + ";", twenty.length() + 1);
            bad(twenty + ";  ", twenty.length() + 3);
            bad(twenty + ";  x", twenty.length() + 3);
            bad(twenty + ";  ;", twenty.length() + 3);
            bad(twenty + ";bear", twenty.length() + 1);
            bad(twenty + "x", twenty.length());
            bad(twenty + "; bear 1; bear 1", twenty.length() + 2);
            bad(nineteen + ";bear 101;bear 1", nineteen.length() + 6);
            bad(nineteen + ";bear;bear 1", nineteen.length() + 5);
        }
        HailPads pads = sized(50);
        pads.claim(8, 8, 100, 100);
        // the 20th RULE judges, too; and 20 losses have room
        Texts.rules(pads, "bear0;".repeat(18) + "loss 70 from 0;bear 7");
        due.is("the 19th and the 20th", pads.judged(0, 0), 63);
    }

    private static void textOf200() {
        due.promise("V: a TEXT of at most 200 bytes");
        good(" ".repeat(194) + "bear 5", 1);
        good("bear 5" + " ".repeat(194), 1);
        good("bear" + " ".repeat(195) + "5", 1);
        bad(" ".repeat(199) + "x", 199);
        bad(" ".repeat(196) + "bear", 200);
        bad("x".repeat(200), 0);
        bad("bear 5" + " ".repeat(193) + ";", 200);
        bad(" ".repeat(199) + ";", 199);
        bad("bear " + "x".repeat(195), 5);
    }

    private static void tapeIsEmptyThen() {
        due.promise("17 rules: the TAPE is empty then");
        HailPads pads = new HailPads();
        due.is("rules", Texts.rules(pads, "bear 5; bear 6"), 2);
        due.is("empty", pads.count(4), 0);
        due.is("nothing to cut", pads.end(1), -1);
        due.is("a refused TEXT", Texts.rules(pads, "x"), -6);
        due.is("empty, too", pads.count(4), 0);
        due.is("nothing to cut", pads.end(1), -1);
        due.is("feed begins anew", pads.feed(0x62656172, 0x20352020, 0x20202020, 0x20202020, 0x20202020), 20);
        due.is("and is read from its start", pads.rules(), 1);
        due.is("room for 200 again", feeds(pads), 200);
    }

    private static int feeds(HailPads pads) {
        int answer = 0;
        for (int k = 0; k < 10; k++) {
            answer = pads.feed(0, 0, 0, 0, 0);
        }
        return answer;
    }

    private static void rulesStay() {
        due.promise("17 rules, -6: they stay");
        String[] refused = {"x", "loss 99 from 0;", "bear 50;bear 50;x", "radar off 0;radar", "loss 1 from 0 bear 0",
            "bear0;".repeat(20) + "bear0"};
        for (String text : refused) {
            HailPads pads = sized(50);
            pads.claim(8, 8, 100, 100);
            pads.radar(1, 1, 60);
            Texts.rules(pads, "loss 80 from 0; bear 3; radar off 10");
            due.is("judged before", pads.judged(0, 0), 77);
            due.is(text, Texts.rules(pads, text), -6);
            due.is("RULES after " + text, pads.count(2), 3);
            due.is("judged after " + text, pads.judged(0, 0), 77);
            pads.radar(1, 1, 61);
            due.is("held back after " + text, pads.judged(0, 0), -2);
            due.is("again " + text, Texts.rules(pads, text), -6);
            due.is("RULES after it twice", pads.count(2), 3);
            due.is("held back after it twice", pads.judged(0, 0), -2);
        }
    }

    private static void rulesAreReplaced() {
        due.promise("17 rules: the TAPE becomes the RULES");
        HailPads pads = sized(50);
        pads.claim(8, 8, 100, 100);
        pads.radar(1, 1, 60);
        Texts.rules(pads, "loss 80 from 0; bear 3; radar off 9");
        due.is("held back", pads.judged(0, 0), -2);
        Texts.rules(pads, "loss 70 from 0; bear 3");
        due.is("no radar off any more", pads.judged(0, 0), 67);
        Texts.rules(pads, "loss 60 from 0");
        due.is("no bear any more", pads.judged(0, 0), 60);
        Texts.rules(pads, "bear 1");
        due.is("no loss any more", pads.judged(0, 0), 0);
        Texts.rules(pads, "loss 70 from 0; loss 80 from 0; bear 3; radar off 10");
        due.is("all again", pads.judged(0, 0), 77);
        due.is("blanks", Texts.rules(pads, "  "), 0);
        due.is("none any more", pads.judged(0, 0), 0);
    }

    private static void faultOfTheLatest() {
        due.promise("18 fault: FAULT of the latest rules(); NONE without");
        HailPads pads = sized(50);
        due.is("ahead of any", pads.fault(), -1);
        Texts.feed(pads, "bear x");
        due.is("not read yet", pads.fault(), -1);
        pads.rules();
        due.is("told", pads.fault(), 5);
        pads.board(64, 0);
        pads.board(1, 1);
        pads.dent(0, 0, 0, 0, 0);
        pads.dent(0, 0, 0, 1, 0);
        pads.clear(0, 0);
        pads.table(0, 0, 0);
        pads.radar(0, 0, 0);
        pads.claim(0, 0, 0, 0);
        pads.judged(0, 0);
        pads.track(0, 0, 0);
        Texts.feed(pads, "x bear");
        due.is("other calls don't change it", pads.fault(), 5);
        pads.rules();
        due.is("the latest", pads.fault(), 0);
        Texts.rules(pads, "bear 5");
        due.is("none", pads.fault(), -1);
        Texts.rules(pads, "bear");
        due.is("told again", pads.fault(), 4);
        pads.rules();
        due.is("an empty TAPE has none", pads.fault(), -1);
    }

    private static void judgedWithout() {
        due.promise("20 judged: NONE without the CLAIM, HOUR");
        HailPads pads = sized(50);
        due.is("no CLAIM", pads.judged(0, 0), -1);
        pads.claim(8, 8, 100, 100);
        due.is("no RULES: the part is 0", pads.judged(0, 0), 0);
        due.is("HOUR 1000", pads.judged(0, 1000), 0);
        due.is("HOUR 1001", pads.judged(0, 1001), -1);
        due.is("HOUR -1", pads.judged(0, -1), -1);
        due.is("the next CLAIM", pads.judged(1, 0), -1);
        due.is("CLAIM -1", pads.judged(-1, 0), -1);
    }

    /** A BOARD of SIZE 100 at 40, 5 and one of SIZE 0 at 5, 40: the MAP there is 99 and 0. */
    private static HailPads lopsided() {
        HailPads pads = new HailPads();
        pads.table(7, 1, 100);
        pads.dent(pads.board(40, 5), 0, 0, 1, 0);
        pads.clear(pads.board(5, 40), 0);
        return pads;
    }

    private static void judgedAtItsPlace() {
        due.promise("V, 19 claim: a place: x first, then y, and the MAP there");
        HailPads pads = lopsided();
        pads.claim(40, 5, 100, 100);
        pads.claim(5, 40, 100, 100);
        Texts.rules(pads, "loss 90 from 99; loss 10 from 0");
        due.is("MAP at 40, 5", pads.map(40, 5, 0, 0), 99);
        due.is("MAP at 5, 40", pads.map(5, 40, 0, 0), 0);
        due.is("40, 5", pads.judged(0, 0), 90);
        due.is("5, 40", pads.judged(1, 0), 10);
        HailPads sure = new HailPads();
        sure.clear(sure.board(40, 5), 0);
        sure.claim(40, 5, 100, 100);
        sure.claim(40, 15, 100, 100);
        sure.claim(50, 5, 100, 100);
        sure.claim(5, 40, 100, 100);
        Texts.rules(sure, "loss 10 from 0; loss 30 from 0 sure 40; loss 60 from 0 sure 80");
        int[] parts = {60, 30, 30, 10};
        for (int c = 0; c < parts.length; c++) {
            due.is("SURE at the place of CLAIM " + c, sure.judged(c, 0), parts[c]);
        }
    }

    private static void judgedByItsRadar() {
        due.promise("V: RADAR was told there: in the square of the CLAIM's place");
        HailPads pads = lopsided();
        pads.claim(40, 5, 100, 100);
        pads.claim(5, 40, 100, 100);
        pads.claim(40, 8, 100, 100);
        pads.claim(47, 7, 100, 100);
        Texts.rules(pads, "loss 10 from 0; radar off 10");
        pads.radar(5, 0, 50);
        int[] first = {-2, 10, 10, -2};
        for (int c = 0; c < first.length; c++) {
            due.is("RADAR at 5, 0, CLAIM " + c, pads.judged(c, 0), first[c]);
        }
        pads.radar(5, 0, -1);
        pads.radar(0, 5, 50);
        int[] second = {10, -2, 10, 10};
        for (int c = 0; c < second.length; c++) {
            due.is("RADAR at 0, 5, CLAIM " + c, pads.judged(c, 0), second[c]);
        }
        pads.radar(5, 0, 99);
        pads.radar(0, 5, 0);
        due.is("OFF by the MAP at 40, 5", pads.judged(0, 0), 10);
        due.is("OFF by the MAP at 5, 40", pads.judged(1, 0), 10);
    }

    private static void judgedByItsOwn() {
        due.promise("V, 19 claim: each CLAIM has its own worth and said part");
        HailPads pads = sized(50);
        Texts.rules(pads, "loss 80 from 0");
        int[] worths = {100, 1000, 0, 100000, 7};
        int[] said = {100, 10, 90, 79, 81};
        int[] dues = {80, 100, 0, 79000, 5};
        for (int c = 0; c < worths.length; c++) {
            due.is("claim " + c, pads.claim(8, 8, worths[c], said[c]), c);
        }
        for (int c = 0; c < worths.length; c++) {
            due.is("judged " + c, pads.judged(c, 0), dues[c]);
        }
    }

    private static void judgedNoMap() {
        due.promise("V: -2 not yet, if there is no MAP there");
        HailPads pads = new HailPads();
        pads.claim(8, 8, 100, 100);
        Texts.rules(pads, "loss 50 from 0");
        due.is("no BOARD", pads.judged(0, 1000), -2);
        pads.board(8, 8);
        due.is("none SEEN", pads.judged(0, 1000), -2);
        pads.clear(0, 10);
        due.is("not yet", pads.judged(0, 9), -2);
        due.is("a MAP", pads.judged(0, 10), 50);
        due.is("no CLAIM, though no MAP", pads.judged(1, 9), -1);
    }

    private static void judgedRadarOff() {
        due.promise("V: -2, RADAR was told there and OFF either way is above the last radar off");
        int[] radars = {0, 29, 30, 31, 49, 50, 51, 69, 70, 71, 100};
        int[] limits = {0, 1, 20, 49, 50, 100};
        for (int radar : radars) {
            for (int limit : limits) {
                HailPads pads = sized(50);
                pads.claim(8, 8, 100, 100);
                pads.claim(16, 8, 100, 100);
                pads.radar(1, 1, radar);
                Texts.rules(pads, "loss 40 from 0;radar off " + limit);
                int off = radar > 50 ? radar - 50 : 50 - radar;
                due.is("RADAR " + radar + ", radar off " + limit, pads.judged(0, 0), off > limit ? -2 : 40);
                due.is("where RADAR was not told", pads.judged(1, 0), 40);
            }
            HailPads pads = sized(50);
            pads.claim(8, 8, 100, 100);
            pads.radar(1, 1, radar);
            Texts.rules(pads, "loss 40 from 0");
            due.is("RADAR " + radar + ", no radar off", pads.judged(0, 0), 40);
        }
        HailPads fresh = sized(50);
        fresh.claim(8, 8, 100, 100);
        fresh.radar(1, 1, 100);
        due.is("RADAR, no RULES ever", fresh.judged(0, 0), 0);
        due.is("100 off, radar off 100", farOff(0, 100, "radar off 100"), 0);
        due.is("100 off, radar off 99", farOff(0, 100, "radar off 99"), -2);
        due.is("100 off the other way, radar off 100", farOff(100, 0, "radar off 100"), 0);
        due.is("100 off the other way, radar off 99", farOff(100, 0, "radar off 99"), -2);
    }

    private static int farOff(int size, int radar, String rules) {
        HailPads pads = sized(size);
        pads.claim(8, 8, 100, 100);
        pads.radar(1, 1, radar);
        Texts.rules(pads, rules);
        return pads.judged(0, 0);
    }

    private static void judgedLastRadarOff() {
        due.promise("V: the last radar off");
        due.is("10, 20, 19", farOff(50, 70, "radar off 10;radar off 20;radar off 19"), -2);
        due.is("19, 10, 20", farOff(50, 70, "radar off 19;radar off 10;radar off 20"), 0);
        due.is("20, 0", farOff(50, 70, "radar off 20;bear 1;radar off 0"), -2);
        due.is("0, 100", farOff(50, 70, "radar off 0;loss 5 from 100;radar off 100"), 0);
        HailPads pads = sized(50);
        pads.claim(8, 8, 100, 100);
        pads.radar(1, 1, 70);
        Texts.rules(pads, "loss 5 from 0;radar off 19");
        due.is("held back", pads.judged(0, 0), -2);
        pads.radar(1, 1, -1);
        due.is("RADAR not told any more", pads.judged(0, 0), 5);
    }

    private static void judgedGreatestLoss() {
        due.promise("V: the greatest of loss (0 without)");
        due.is("first", judged(50, "loss 90 from 0;loss 80 from 0;loss 70 from 0"), 90);
        due.is("middle", judged(50, "loss 80 from 0;loss 90 from 0;loss 70 from 0"), 90);
        due.is("last", judged(50, "loss 80 from 0;loss 70 from 0;loss 90 from 0"), 90);
        due.is("a greater one that does not fit", judged(50, "loss 80 from 50;loss 90 from 51"), 80);
        due.is("none fits", judged(50, "loss 80 from 51"), 0);
        due.is("none there", judged(50, "radar off 5"), 0);
        due.is("loss 0", judged(50, "loss 0 from 0"), 0);
        due.is("loss 100", judged(50, "loss 100 from 0"), 100);
    }

    private static void judgedFromSize() {
        due.promise("V: whose SIZE is not above the MAP's");
        int[] sizes = {0, 1, 49, 50, 51, 99, 100};
        for (int size : sizes) {
            for (int from : sizes) {
                due.is("MAP " + size + ", from " + from, judged(size, "loss 40 from " + from), from <= size ? 40 : 0);
            }
        }
    }

    private static void judgedSure() {
        due.promise("V: whose sure is not above SURE");
        HailPads pads = sized(50);
        // 12 off: SURE 52
        pads.claim(20, 8, 100, 100);
        due.is("SURE", pads.map(20, 8, 0, 1), 52);
        int[] sures = {0, 1, 51, 52, 53, 100};
        for (int sure : sures) {
            Texts.rules(pads, "loss 40 from 50 sure " + sure);
            due.is("sure " + sure, pads.judged(0, 0), sure <= 52 ? 40 : 0);
        }
        Texts.rules(pads, "loss 40 from 50");
        due.is("no sure", pads.judged(0, 0), 40);
        Texts.rules(pads, "loss 40 from 51 sure 0");
        due.is("sure, but SIZE above", pads.judged(0, 0), 0);
        due.is("SURE 100, sure 100", judged(50, "loss 40 from 50 sure 100"), 40);
        HailPads far = sized(50);
        far.claim(63, 63, 100, 100);
        due.is("SURE 0", far.map(63, 63, 0, 1), 0);
        Texts.rules(far, "loss 30 from 50;loss 40 from 50 sure 1");
        due.is("SURE 0, sure 1", far.judged(0, 0), 30);
        Texts.rules(far, "loss 30 from 50;loss 40 from 50 sure 0");
        due.is("SURE 0, sure 0", far.judged(0, 0), 40);
    }

    private static void judgedAmongOthers() {
        due.promise("V: each loss has its own SIZE and sure, whatever RULES stand between");
        int[] sizes = {0, 19, 20, 39, 40, 59, 60, 100};
        int[] parts = {0, 0, 20, 20, 40, 40, 60, 60};
        String mixed = "bear 0;loss 20 from 20 sure 100;radar off 9;bear 0;loss 60 from 60;loss 40 from 40 sure 99";
        for (int k = 0; k < sizes.length; k++) {
            due.is("MAP " + sizes[k], judged(sizes[k], mixed), parts[k]);
        }
        HailPads pads = sized(50);
        // 5 off: SURE 80
        pads.claim(8, 13, 100, 100);
        Texts.rules(pads, "bear 0;radar off 9;loss 90 from 0 sure 81;bear 1;loss 50 from 0 sure 80;loss 30 from 0");
        due.is("SURE 80", pads.judged(0, 0), 49);
        Texts.rules(pads, "loss 30 from 0;bear 1;loss 50 from 0 sure 80;bear 0;loss 90 from 0 sure 81");
        due.is("SURE 80, turned", pads.judged(0, 0), 50);
    }

    private static void judgedSaid() {
        due.promise("V: no more than is said");
        int[] said = {0, 1, 49, 50, 51, 100};
        for (int part : said) {
            HailPads pads = sized(50);
            pads.claim(8, 8, 100, part);
            Texts.rules(pads, "loss 50 from 0");
            due.is("said " + part, pads.judged(0, 0), Math.min(part, 50));
            Texts.rules(pads, "loss 50 from 0;bear 10");
            due.is("said " + part + ", the bear comes off what is left", pads.judged(0, 0),
                    Math.max(0, Math.min(part, 50) - 10));
        }
    }

    private static void judgedBear() {
        due.promise("V: less the last bear (at least 0)");
        int[] bears = {0, 1, 49, 50, 51, 100};
        for (int bear : bears) {
            due.is("bear " + bear, judged(50, "loss 50 from 0;bear " + bear), Math.max(0, 50 - bear));
            due.is("bear alone", judged(50, "bear " + bear), 0);
        }
        due.is("the last, lower", judged(50, "bear 20;loss 50 from 0;bear 30;bear 10"), 40);
        due.is("the last, higher", judged(50, "bear 20;loss 50 from 0;bear 10;bear 30"), 20);
        due.is("the last, 0", judged(50, "bear 20;loss 50 from 0;bear 0"), 50);
    }

    private static void judgedCut() {
        due.promise("V: worth times that / 100, cut");
        int[] worths = {0, 1, 2, 3, 99, 100, 101, 199, 99999, 100000};
        int[] parts = {0, 1, 33, 50, 67, 99, 100};
        for (int worth : worths) {
            HailPads pads = sized(50);
            pads.claim(8, 8, worth, 100);
            for (int part : parts) {
                Texts.rules(pads, "loss " + part + " from 0");
                due.is(worth + " times " + part, pads.judged(0, 0), (long) worth * part / 100);
            }
        }
    }

    private static void judgedOfAnHour() {
        due.promise("V: JUDGED as known in an HOUR");
        HailPads pads = new HailPads();
        pads.table(7, 10, 10);
        pads.table(6, 50, 50);
        pads.claim(8, 8, 100, 100);
        pads.radar(1, 1, 50);
        Texts.rules(pads, "loss 20 from 0;loss 70 from 50;radar off 40");
        pads.board(8, 8);
        pads.clear(0, 10);
        pads.dent(0, 0, 0, 10, 20);
        pads.dent(0, 0, 0, 50, 30);
        int[] hours = {0, 9, 10, 19, 20, 29, 30, 1000};
        int[] dues = {-2, -2, -2, -2, 20, 20, 70, 70};
        for (int k = 0; k < hours.length; k++) {
            due.is("hour " + hours[k], pads.judged(0, hours[k]), dues[k]);
        }
    }
}
