import java.util.Arrays;

/** The boundary cases of Terms I and II: DENTS by HANDS and HOURS, TABLE, BOARDS that are SEEN. */
public final class DentEdgesTest {
    private static final Due due = new Due();
    private static final int[] HOURS = {0, 1, 499, 500, 501, 999, 1000};

    private DentEdgesTest() {
    }

    public static void main(String[] args) {
        knownFromAnHourOn();
        toldLastOfThoseKnown();
        oneHandBoardNumber();
        middle();
        middleOfAlikes();
        rawOfAnHour();
        leaningWithout();
        leaningNeedsAnotherHand();
        leaningOfAnHour();
        leaningLowerMiddle();
        leaningFarthest();
        leaningOfAllFull();
        trueAtLeastOne();
        trueAbove400();
        trueMiddle();
        tableAtFirst();
        tableNotAbove();
        tableAlikeRows();
        tableToldAgain();
        sizeGreatest();
        sizeByTrue();
        many();
        seenByDent();
        seenByClear();
        clearEarliest();
        clearAndDent();
        quarrels();
        quarrelOfOneDent();
        quarrelAsTold();
        due.close();
    }

    private static HailPads withBoards(int count) {
        HailPads pads = new HailPads();
        for (int b = 0; b < count; b++) {
            pads.board(b, b);
        }
        return pads;
    }

    private static void knownFromAnHourOn() {
        due.promise("I: known from an HOUR on");
        for (int from : HOURS) {
            HailPads pads = withBoards(1);
            pads.dent(0, 0, 0, 77, from);
            for (int hour : HOURS) {
                due.is("from " + from + " in " + hour, pads.of(0, 0, hour, 0), hour >= from ? 77 : -1);
                due.is("HANDS from " + from + " in " + hour, pads.of(0, 0, hour, 3), hour >= from ? 1 : -1);
            }
        }
    }

    private static void toldLastOfThoseKnown() {
        due.promise("I: of one HAND, BOARD, number the one told last of those known counts");
        HailPads pads = withBoards(1);
        pads.dent(0, 0, 0, 30, 500);
        pads.dent(0, 0, 0, 40, 300);
        pads.dent(0, 0, 0, 20, 700);
        pads.dent(0, 0, 0, 90, 301);
        int[] hours = {299, 300, 301, 499, 500, 501, 699, 700, 1000};
        int[] widths = {-1, 40, 90, 90, 90, 90, 90, 90, 90};
        for (int k = 0; k < hours.length; k++) {
            due.is("hour " + hours[k], pads.of(0, 0, hours[k], 0), widths[k]);
        }
        pads.dent(0, 0, 0, 25, 700);
        due.is("not in an HOUR before", pads.of(0, 0, 699, 0), 90);
        due.is("told last and known", pads.of(0, 0, 700, 0), 25);
        due.is("one HAND all the same", pads.of(0, 0, 1000, 3), 1);
        due.is("of one HOUR the one told last", pads.dent(0, 0, 0, 24, 700), 6);
        due.is("at once", pads.of(0, 0, 700, 0), 24);
    }

    private static void oneHandBoardNumber() {
        due.promise("I: another HAND, BOARD or number is another dent's or width");
        HailPads pads = withBoards(2);
        pads.dent(0, 4, 4, 50, 0);
        pads.dent(1, 4, 4, 60, 0);
        pads.dent(0, 5, 4, 70, 0);
        pads.dent(0, 4, 5, 80, 0);
        due.is("another BOARD", pads.of(0, 4, 0, 0), 50);
        due.is("its own", pads.of(1, 4, 0, 0), 60);
        due.is("another number", pads.of(0, 5, 0, 0), 70);
        due.is("two HANDS", pads.of(0, 4, 0, 3), 2);
        due.is("a number without", pads.of(1, 5, 0, 0), -1);
        due.is("the last number and the next BOARD's first", pads.of(0, 9, 0, 0), -1);
        pads.dent(1, 0, 0, 10, 0);
        due.is("are two", pads.of(0, 9, 0, 0), -1);
        pads.dent(0, 9, 7, 20, 0);
        due.is("each with", pads.of(1, 0, 0, 0), 10);
        due.is("its width", pads.of(0, 9, 0, 0), 20);
    }

    private static void middle() {
        due.promise("I: MIDDLE, of an even count the lower of both in the middle");
        int[] widths = {205, 3, 400, 101, 7, 99, 1, 300};
        for (int count = 1; count <= 8; count++) {
            HailPads up = withBoards(1);
            HailPads down = withBoards(1);
            for (int k = 0; k < count; k++) {
                up.dent(0, 0, k, widths[k], 0);
                down.dent(0, 0, 7 - k, widths[k], 0);
            }
            int[] sorted = Arrays.copyOf(widths, count);
            Arrays.sort(sorted);
            int due1 = sorted[count % 2 == 1 ? count / 2 : count / 2 - 1];
            due.is("RAW of " + count, up.of(0, 0, 0, 0), due1);
            due.is("RAW of " + count + ", HANDS from 7 down", down.of(0, 0, 0, 0), due1);
            due.is("HANDS", up.of(0, 0, 0, 3), count);
        }
    }

    private static void middleOfAlikes() {
        due.promise("I: MIDDLE of alike numbers");
        int[][] widths = {{5, 5}, {5, 5, 9}, {9, 5, 9}, {5, 9, 9, 9}, {9, 5, 5, 9}, {1, 400, 1, 400, 400}};
        int[] middles = {5, 5, 9, 9, 5, 400};
        for (int k = 0; k < widths.length; k++) {
            HailPads pads = withBoards(1);
            for (int hand = 0; hand < widths[k].length; hand++) {
                pads.dent(0, 0, hand, widths[k][hand], 0);
            }
            due.is(Arrays.toString(widths[k]), pads.of(0, 0, 0, 0), middles[k]);
        }
    }

    private static void rawOfAnHour() {
        due.promise("II: RAW as known in an HOUR");
        HailPads pads = withBoards(1);
        for (int hand = 0; hand < 8; hand++) {
            pads.dent(0, 0, hand, 80 - 10 * hand, hand);
        }
        int[] raws = {80, 70, 70, 60, 60, 50, 50, 40};
        for (int hour = 0; hour < 8; hour++) {
            due.is("hour " + hour, pads.of(0, 0, hour, 0), raws[hour]);
            due.is("HANDS in " + hour, pads.of(0, 0, hour, 3), hour + 1);
        }
        due.is("later", pads.of(0, 0, 1000, 0), 40);
        due.is("and back again", pads.of(0, 0, 0, 0), 80);
    }

    private static void leaningWithout() {
        due.promise("II: LEANING, 0 without");
        HailPads pads = new HailPads();
        for (int hand = 0; hand < 8; hand++) {
            due.is("no BOARD", pads.leaning(hand, 0), 0);
        }
        pads.board(0, 0);
        due.is("no dent", pads.leaning(0, 1000), 0);
        pads.dent(0, 0, 0, 400, 0);
        due.is("a dent that it alone measured", pads.leaning(0, 1000), 0);
        due.is("a HAND without dents", pads.leaning(7, 1000), 0);
        pads.dent(0, 1, 1, 1, 0);
        due.is("each its own dent", pads.leaning(0, 0), 0);
        due.is("TRUE is RAW then", pads.of(0, 0, 0, 1), 400);
    }

    private static void leaningNeedsAnotherHand() {
        due.promise("II: LEANING over dents that at least one other HAND measured");
        HailPads pads = withBoards(1);
        pads.dent(0, 0, 0, 100, 0);
        pads.dent(0, 0, 1, 140, 0);
        due.is("one other", pads.leaning(1, 0), 40);
        for (int number = 1; number < 5; number++) {
            pads.dent(0, number, 1, 200, 0);
        }
        due.is("dents of it alone don't count", pads.leaning(1, 0), 40);
        pads.dent(0, 1, 1, 300, 0);
        due.is("told twice by one HAND: alone as before", pads.leaning(1, 0), 40);
        pads.dent(0, 5, 2, 100, 0);
        pads.dent(0, 5, 3, 100, 0);
        due.is("dents of two others don't count", pads.leaning(1, 0), 40);
        pads.dent(0, 1, 4, 300, 0);
        due.is("now 0 and 40", pads.leaning(1, 0), 0);
    }

    private static void leaningOfAnHour() {
        due.promise("II: LEANING as known in an HOUR");
        HailPads pads = withBoards(1);
        pads.dent(0, 0, 0, 100, 10);
        pads.dent(0, 0, 1, 120, 20);
        pads.dent(0, 0, 1, 150, 30);
        int[] hours = {9, 10, 19, 20, 29, 30, 1000};
        int[] leanings = {0, 0, 0, 20, 20, 50, 50};
        for (int k = 0; k < hours.length; k++) {
            due.is("hour " + hours[k], pads.leaning(1, hours[k]), leanings[k]);
        }
        due.is("TRUE before", pads.of(0, 0, 29, 1), 100);
        pads.dent(0, 0, 0, 160, 1000);
        due.is("the other HAND's, told again", pads.leaning(1, 1000), 0);
        due.is("leans itself then", pads.leaning(0, 1000), 10);
        due.is("not before", pads.leaning(1, 999), 50);
    }

    private static void leaningLowerMiddle() {
        due.promise("II: LEANING is a MIDDLE: of an even count the lower");
        int[][] offs = {{7}, {7, 3}, {0, 3}, {9, 1, 5}, {9, 1, 5, 4}, {6, 6, 2, 2}};
        int[] dues = {7, 3, 0, 5, 4, 2};
        for (int k = 0; k < offs.length; k++) {
            HailPads above = withBoards(1);
            HailPads below = withBoards(1);
            for (int n = 0; n < offs[k].length; n++) {
                above.dent(0, n, 0, 100, 0);
                above.dent(0, n, 1, 100 + offs[k][n], 0);
                below.dent(0, n, 0, 100 - offs[k][n], 0);
                below.dent(0, n, 1, 100, 0);
                below.dent(0, n, 2, 100, 0);
            }
            int[] sorted = offs[k].clone();
            Arrays.sort(sorted);
            due.is("above " + Arrays.toString(offs[k]), above.leaning(1, 0), dues[k]);
            // lower among numbers below 0 is farther off
            due.is("below " + Arrays.toString(offs[k]), below.leaning(0, 0), -sorted[sorted.length / 2]);
        }
        HailPads both = withBoards(1);
        both.dent(0, 0, 0, 50, 0);
        both.dent(0, 0, 1, 60, 0);
        both.dent(0, 0, 2, 60, 0);
        both.dent(0, 1, 0, 70, 0);
        both.dent(0, 1, 1, 60, 0);
        both.dent(0, 1, 2, 60, 0);
        due.is("of -10 and 10", both.leaning(0, 0), -10);
    }

    private static void leaningFarthest() {
        due.promise("II: LEANING from -399 to 399");
        HailPads pads = withBoards(1);
        pads.dent(0, 0, 0, 1, 0);
        pads.dent(0, 0, 1, 400, 0);
        due.is("highest", pads.leaning(1, 0), 399);
        due.is("lower of two", pads.leaning(0, 0), 0);
        pads.dent(0, 0, 2, 400, 1);
        due.is("lowest", pads.leaning(0, 1), -399);
        due.is("none", pads.leaning(1, 1), 0);
    }

    private static void leaningOfAllFull() {
        due.promise("II: LEANING over as many dents as there can be");
        HailPads pads = withBoards(15);
        for (int cell = 0; cell < 150; cell++) {
            pads.dent(cell / 10, cell % 10, 6, 100, 0);
            pads.dent(cell / 10, cell % 10, 7, 101 + cell * 77 % 150, 0);
        }
        due.is("300 DENTS", pads.count(1), 300);
        due.is("the 75th of 1 .. 150", pads.leaning(7, 0), 75);
        due.is("the other", pads.leaning(6, 0), 0);
        due.is("TRUE of the first: 100 and 26", pads.of(0, 0, 0, 1), 26);
        // 101 + 148 * 77 % 150 = 247
        due.is("TRUE of the last but one: 100 and 247 - 75", pads.of(14, 8, 0, 1), 100);
        HailPads thirty = withBoards(30);
        for (int d = 0; d < 300; d++) {
            thirty.dent(d / 10, d % 10, 3, 1 + d, 0);
        }
        due.is("300 dents of one HAND", thirty.leaning(3, 0), 0);
        due.is("the first", thirty.of(0, 0, 0, 1), 1);
        due.is("the last", thirty.of(29, 9, 0, 1), 300);
    }

    private static void trueAtLeastOne() {
        due.promise("II: TRUE, at least 1");
        HailPads pads = withBoards(1);
        pads.dent(0, 0, 0, 100, 0);
        pads.dent(0, 0, 1, 150, 0);
        int[] widths = {1, 48, 49, 50, 51, 52, 53};
        int[] trues = {1, 1, 1, 1, 1, 2, 3};
        pads.table(7, 1, 9);
        pads.table(6, 2, 8);
        for (int k = 0; k < widths.length; k++) {
            pads.dent(0, 5, 1, widths[k], 0);
            due.is("LEANING stays", pads.leaning(1, 0), 50);
            due.is("RAW " + widths[k], pads.of(0, 5, 0, 0), widths[k]);
            due.is("TRUE of " + widths[k] + " less 50", pads.of(0, 5, 0, 1), trues[k]);
            due.is("SIZE of " + widths[k] + " less 50", pads.of(0, 5, 0, 2), trues[k] > 1 ? 8 : 9);
        }
    }

    private static void trueAbove400() {
        due.promise("II: TRUE goes by the LEANING alone, above 400 too");
        HailPads pads = withBoards(1);
        pads.dent(0, 0, 0, 1, 0);
        pads.dent(0, 0, 1, 400, 0);
        pads.dent(0, 0, 2, 400, 0);
        pads.dent(0, 1, 0, 400, 0);
        due.is("RAW", pads.of(0, 1, 0, 0), 400);
        due.is("TRUE", pads.of(0, 1, 0, 1), 799);
        pads.dent(0, 2, 0, 1, 0);
        due.is("just 400", pads.of(0, 2, 0, 1), 400);
        pads.table(3, 400, 55);
        due.is("SIZE of 799", pads.of(0, 1, 0, 2), 55);
        due.is("SIZE of 400", pads.of(0, 2, 0, 2), 55);
    }

    private static void trueMiddle() {
        due.promise("II: TRUE is the MIDDLE of widths, each less its HAND's LEANING");
        HailPads pads = withBoards(2);
        for (int number = 0; number < 3; number++) {
            pads.dent(0, number, 0, 100, 0);
            pads.dent(0, number, 1, 130, 0);
        }
        pads.dent(1, 0, 0, 100, 0);
        pads.dent(1, 0, 1, 110, 0);
        due.is("LEANING of 1", pads.leaning(1, 0), 30);
        due.is("RAW", pads.of(1, 0, 0, 0), 100);
        due.is("100 and 110 - 30", pads.of(1, 0, 0, 1), 80);
        pads.dent(1, 0, 2, 95, 1);
        due.is("RAW of 95, 100, 110", pads.of(1, 0, 1, 0), 100);
        due.is("LEANING of 2", pads.leaning(2, 1), -5);
        due.is("LEANING of 1, of 30, 30, 30, 10", pads.leaning(1, 1), 30);
        due.is("100, 110 - 30, 95 + 5", pads.of(1, 0, 1, 1), 100);
        due.is("as before in the HOUR before", pads.of(1, 0, 0, 1), 80);
    }

    private static void tableAtFirst() {
        due.promise("II: TABLE, all rows 0, 0 at first");
        HailPads pads = withBoards(1);
        pads.dent(0, 0, 0, 400, 0);
        due.is("SIZE by a new TABLE", pads.of(0, 0, 0, 2), 0);
        for (int k = 0; k < 7; k++) {
            HailPads one = withBoards(1);
            one.dent(0, 0, 0, 400, 0);
            one.table(k, 0, 50);
            due.is("row " + k + ", and 0, 0 behind it", one.of(0, 0, 0, 2), 0);
            one.table(k, 1, 50);
            due.is("row " + k + " from 1 on", one.of(0, 0, 0, 2), 50);
        }
        pads.table(7, 0, 50);
        due.is("row 7 is the last", pads.of(0, 0, 0, 2), 50);
    }

    private static void tableNotAbove() {
        due.promise("II: the row with the greatest width not above the TRUE one; 0 without");
        int[] rows = {1, 2, 200, 399, 400};
        for (int row : rows) {
            HailPads pads = withBoards(1);
            pads.table(4, row, 100);
            for (int width = Math.max(1, row - 1); width <= Math.min(400, row + 1); width++) {
                pads.dent(0, 0, 0, width, 0);
                due.is(width + " by a row from " + row, pads.of(0, 0, 0, 2), width >= row ? 100 : 0);
            }
        }
        HailPads all = withBoards(1);
        for (int k = 0; k < 8; k++) {
            all.table(k, 50 * (k * 3 % 8) + 1, 10 + k);
        }
        // rows by their widths: 0, 3, 6, 1, 4, 7, 2, 5
        int[] byWidth = {0, 3, 6, 1, 4, 7, 2, 5};
        for (int k = 0; k < 8; k++) {
            all.dent(0, 0, 0, 50 * k + 1, 0);
            due.is("just row " + byWidth[k], all.of(0, 0, 0, 2), 10 + byWidth[k]);
            all.dent(0, 0, 0, 50 * k + 50, 0);
            due.is("still row " + byWidth[k], all.of(0, 0, 0, 2), 10 + byWidth[k]);
        }
        HailPads none = withBoards(1);
        for (int k = 0; k < 8; k++) {
            none.table(k, 51, 100);
        }
        none.dent(0, 0, 0, 50, 0);
        due.is("all rows above", none.of(0, 0, 0, 2), 0);
        due.is("SIZE of the BOARD", none.seen(0, 0, 0), 0);
        none.dent(0, 0, 0, 51, 0);
        due.is("not above", none.of(0, 0, 0, 2), 100);
    }

    private static void tableAlikeRows() {
        due.promise("II: of alike ones the later row");
        for (int low = 0; low < 8; low++) {
            for (int high = low + 1; high < 8; high++) {
                HailPads pads = withBoards(1);
                pads.dent(0, 0, 0, 50, 0);
                pads.table(high, 50, 20);
                pads.table(low, 50, 70);
                due.is(low + " and " + high, pads.of(0, 0, 0, 2), 20);
            }
        }
        HailPads pads = withBoards(1);
        pads.dent(0, 0, 0, 50, 0);
        for (int k = 7; k >= 0; k--) {
            pads.table(k, 50, 90 - k);
            due.is("rows " + k + " .. 7", pads.of(0, 0, 0, 2), 83);
        }
    }

    private static void tableToldAgain() {
        due.promise("5 table: a row told again");
        HailPads pads = withBoards(1);
        pads.dent(0, 0, 0, 50, 1000);
        pads.table(2, 50, 20);
        due.is("told", pads.of(0, 0, 1000, 2), 20);
        due.is("the BOARD", pads.seen(0, 1000, 0), 20);
        pads.table(2, 50, 21);
        due.is("another SIZE, in an HOUR asked for before", pads.of(0, 0, 1000, 2), 21);
        due.is("the BOARD's", pads.seen(0, 1000, 0), 21);
        pads.table(2, 51, 22);
        due.is("another width", pads.of(0, 0, 1000, 2), 0);
        pads.table(2, 0, 0);
        due.is("0, 0 again", pads.of(0, 0, 1000, 2), 0);
    }

    private static void sizeGreatest() {
        due.promise("II: a BOARD's SIZE is the greatest of its dents'");
        for (int greatest = 0; greatest < 10; greatest++) {
            HailPads pads = withBoards(3);
            pads.table(7, 10, 10);
            pads.table(6, 60, 60);
            pads.table(5, 70, 70);
            for (int number = 0; number < 10; number++) {
                pads.dent(1, number, 0, number == greatest ? 60 : 10, 0);
            }
            pads.dent(0, 9, 0, 70, 0);
            pads.dent(2, 0, 0, 70, 0);
            due.is("number " + greatest, pads.seen(1, 0, 0), 60);
        }
        HailPads falling = withBoards(1);
        falling.table(7, 50, 3);
        falling.table(6, 10, 40);
        falling.dent(0, 0, 0, 10, 0);
        falling.dent(0, 1, 0, 50, 1);
        due.is("the greatest SIZE, not the widest dent's", falling.seen(0, 1, 0), 40);
        falling.dent(0, 0, 0, 60, 2);
        due.is("a dent told again is not what it was", falling.seen(0, 2, 0), 3);
        due.is("but was", falling.seen(0, 1, 0), 40);
    }

    private static void sizeByTrue() {
        due.promise("II: SIZE goes by the TRUE width, in BOARDS, TRACK, MAP and CLAIMS, too");
        HailPads pads = withBoards(3);
        pads.table(6, 50, 20);
        pads.table(7, 100, 40);
        pads.dent(0, 0, 2, 100, 0);
        pads.dent(1, 0, 1, 100, 0);
        pads.claim(1, 1, 100, 100);
        Texts.rules(pads, "loss 30 from 20; loss 70 from 40");
        // from HOUR 5 on HAND 1 is known to lean by 50
        pads.dent(2, 0, 0, 50, 5);
        pads.dent(2, 0, 1, 100, 5);
        int[] hours = {4, 5};
        int[][] dues = {{0, 100, 40, 40, 2, 40, 70}, {50, 50, 20, 20, 0, 23, 30}};
        for (int k = 0; k < 2; k++) {
            int hour = hours[k];
            due.is("LEANING in " + hour, pads.leaning(1, hour), dues[k][0]);
            due.is("TRUE in " + hour, pads.of(1, 0, hour, 1), dues[k][1]);
            due.is("RAW in " + hour, pads.of(1, 0, hour, 0), 100);
            due.is("SIZE of the dent in " + hour, pads.of(1, 0, hour, 2), dues[k][2]);
            due.is("SIZE of the BOARD in " + hour, pads.seen(1, hour, 0), dues[k][3]);
            due.is("TRACK of SIZE 21 in " + hour, pads.track(21, 20, hour), dues[k][4]);
            due.is("MAP in " + hour, pads.map(1, 1, hour, 0), dues[k][5]);
            due.is("CLAIM in " + hour, pads.judged(0, hour), dues[k][6]);
        }
        due.is("TRACK of SIZE 20", pads.track(20, 20, 5), 3);
        pads.dent(2, 0, 1, 101, 6);
        due.is("LEANING in 6", pads.leaning(1, 6), 51);
        due.is("just too small", pads.seen(1, 6, 0), 0);
    }

    private static void many() {
        due.promise("II: MANY how many dents it has");
        HailPads pads = withBoards(2);
        due.is("none", pads.seen(0, 0, 1), 0);
        for (int number = 0; number < 10; number++) {
            pads.dent(0, number, 0, 1, number);
            pads.dent(0, number, 1, 1, number);
            pads.dent(0, number, 1, 2, number);
        }
        for (int hour = 0; hour < 10; hour++) {
            due.is("hour " + hour, pads.seen(0, hour, 1), hour + 1);
        }
        due.is("all numbers", pads.seen(0, 1000, 1), 10);
        due.is("the other BOARD has none", pads.seen(1, 1000, 1), 0);
    }

    private static void seenByDent() {
        due.promise("II: a BOARD is SEEN, if one is known");
        for (int number = 0; number < 10; number += 9) {
            HailPads pads = withBoards(3);
            pads.dent(1, number, 7, 1, 50);
            due.is("before", pads.seen(1, 49, 2), 0);
            due.is("SIZE before", pads.seen(1, 49, 0), -1);
            due.is("MANY before", pads.seen(1, 49, 1), 0);
            due.is("from then on", pads.seen(1, 50, 2), 1);
            due.is("SIZE 0 by the TABLE is a SIZE", pads.seen(1, 50, 0), 0);
            due.is("the BOARD before it", pads.seen(0, 1000, 2), 0);
            due.is("the BOARD behind it", pads.seen(2, 1000, 2), 0);
        }
    }

    private static void seenByClear() {
        due.promise("II: or if it was told CLEAR, known from an HOUR on");
        for (int from : HOURS) {
            HailPads pads = withBoards(2);
            pads.clear(0, from);
            for (int hour : HOURS) {
                due.is("from " + from + " in " + hour, pads.seen(0, hour, 2), hour >= from ? 1 : 0);
                due.is("SIZE from " + from + " in " + hour, pads.seen(0, hour, 0), hour >= from ? 0 : -1);
                due.is("MANY from " + from + " in " + hour, pads.seen(0, hour, 1), 0);
                due.is("the other from " + from + " in " + hour, pads.seen(1, hour, 2), 0);
            }
        }
    }

    private static void clearEarliest() {
        due.promise("4 clear: from the earliest HOUR told");
        HailPads pads = withBoards(2);
        int[] told = {1000, 600, 800, 600, 599, 1000, 0};
        int[] earliest = {1000, 600, 600, 600, 599, 599, 0};
        for (int k = 0; k < told.length; k++) {
            due.is("clear " + told[k], pads.clear(1, told[k]), 0);
            due.is("in " + earliest[k], pads.seen(1, earliest[k], 2), 1);
            if (earliest[k] > 0) {
                due.is("in " + (earliest[k] - 1), pads.seen(1, earliest[k] - 1, 2), 0);
            }
        }
        due.is("the other", pads.seen(0, 1000, 2), 0);
    }

    private static void clearAndDent() {
        due.promise("II: CLEAR: SIZE 0 as long as no dent is known");
        HailPads pads = withBoards(1);
        pads.table(7, 1, 30);
        pads.clear(0, 10);
        pads.dent(0, 0, 0, 5, 20);
        int[] hours = {9, 10, 19, 20, 1000};
        int[] sizes = {-1, 0, 0, 30, 30};
        for (int k = 0; k < hours.length; k++) {
            due.is("hour " + hours[k], pads.seen(0, hours[k], 0), sizes[k]);
        }
        pads.clear(0, 20);
        due.is("CLEAR told behind the dent", pads.seen(0, 20, 0), 30);
        HailPads dentFirst = withBoards(1);
        dentFirst.table(7, 1, 30);
        dentFirst.dent(0, 0, 0, 5, 10);
        dentFirst.clear(0, 20);
        due.is("the dent is known", dentFirst.seen(0, 20, 0), 30);
        due.is("MANY", dentFirst.seen(0, 20, 1), 1);
        due.is("not before the dent", dentFirst.seen(0, 9, 2), 0);
        due.is("the dent once more", dentFirst.seen(0, 10, 1), 1);
        dentFirst.clear(0, 5);
        due.is("CLEAR told behind a dent that is known later", dentFirst.seen(0, 5, 2), 1);
        due.is("its SIZE then", dentFirst.seen(0, 9, 0), 0);
        due.is("its SIZE with the dent", dentFirst.seen(0, 10, 0), 30);
        due.is("not before", dentFirst.seen(0, 4, 0), -1);
    }

    private static void quarrels() {
        due.promise("21 quarrel: the most that two HANDS' widths of one dent differ");
        HailPads pads = withBoards(2);
        due.is("no dent", pads.quarrel(0, 1000), 0);
        pads.clear(0, 0);
        due.is("CLEAR", pads.quarrel(0, 1000), 0);
        pads.dent(0, 0, 3, 400, 0);
        due.is("one HAND", pads.quarrel(0, 0), 0);
        pads.dent(0, 1, 4, 1, 0);
        due.is("two HANDS, two dents", pads.quarrel(0, 0), 0);
        pads.dent(1, 0, 4, 1, 0);
        due.is("two HANDS, two BOARDS", pads.quarrel(0, 0), 0);
        pads.dent(0, 0, 5, 400, 0);
        due.is("alike widths", pads.quarrel(0, 0), 0);
        pads.dent(0, 0, 6, 399, 1);
        due.is("1", pads.quarrel(0, 1), 1);
        pads.dent(0, 0, 0, 1, 2);
        due.is("the most there can be", pads.quarrel(0, 2), 399);
        due.is("not in the HOUR before", pads.quarrel(0, 1), 1);
        pads.dent(0, 0, 0, 398, 3);
        due.is("told again: the width before does not count", pads.quarrel(0, 3), 2);
        for (int number = 0; number < 10; number++) {
            HailPads one = withBoards(2);
            one.dent(1, number, 7, 10, 0);
            one.dent(1, number, 0, 30, 0);
            one.dent(1, number, 4, 20, 0);
            due.is("number " + number, one.quarrel(1, 0), 20);
            due.is("the BOARD before it", one.quarrel(0, 0), 0);
        }
    }

    private static void quarrelOfOneDent() {
        due.promise("21 quarrel: of one dent, whichever HANDS measured its neighbours");
        for (int hand = 0; hand < 8; hand++) {
            for (int other = 0; other < 8; other++) {
                HailPads pads = withBoards(2);
                pads.dent(0, 8, hand, 400, 0);
                pads.dent(0, 9, other, 200, 0);
                pads.dent(1, 0, hand, 1, 0);
                due.is(hand + " and " + other + ", the next number", pads.quarrel(0, 0), 0);
                due.is(hand + " and " + other + ", the next BOARD", pads.quarrel(1, 0), 0);
                due.is(hand + " and " + other + ", RAW of the first", pads.of(0, 8, 0, 0), 400);
                due.is(hand + " and " + other + ", RAW of the second", pads.of(0, 9, 0, 0), 200);
            }
        }
        HailPads last = withBoards(30);
        last.dent(29, 9, 7, 400, 0);
        last.dent(29, 9, 0, 1, 0);
        due.is("the last of all", last.quarrel(29, 0), 399);
    }

    private static void quarrelAsTold() {
        due.promise("21 quarrel: as told, LEANING not off");
        HailPads pads = withBoards(1);
        for (int number = 0; number < 10; number++) {
            pads.dent(0, number, 0, 100, 0);
            pads.dent(0, number, 1, 137, 0);
        }
        due.is("LEANING", pads.leaning(1, 0), 37);
        due.is("quarrel", pads.quarrel(0, 0), 37);
    }
}
