import java.util.ArrayList;
import java.util.List;

/** The boundary cases of Terms III and IV: TRACK, MAP, RADAR and OFF. */
public final class StormEdgesTest {
    private static final Due due = new Due();
    private static final int NOTHING = -1000;

    private StormEdgesTest() {
    }

    public static void main(String[] args) {
        trackWithout();
        trackAtUnlikePlaces();
        trackHit();
        trackSmallestAndGreatest();
        trackExactly();
        trackIsALine();
        trackMost();
        trackAlike();
        trackAllFull();
        latestIsKept();
        latestIsNone();
        withinBoards();
        mapWithout();
        mapFewer();
        mapNearestThree();
        mapNearestSeen();
        mapAtItsPlace();
        mapWeights();
        mapFarthest();
        sureSweep();
        sureDifference();
        sureAtLeastNone();
        mapOfAnHour();
        radarSquares();
        radarSizes();
        offEitherWay();
        offAtItsPlace();
        offWithout();
        due.close();
    }

    /** BOARDS at x, y, x, y, .. that were all told CLEAR: SEEN, SIZE 0. */
    private static HailPads clearAt(int... places) {
        HailPads pads = new HailPads();
        for (int k = 0; k + 1 < places.length; k += 2) {
            pads.clear(pads.board(places[k], places[k + 1]), 0);
        }
        return pads;
    }

    /** BOARDS at x, y with a SIZE of 0, 1, 10, 20, 30, 40, 50 or 100 each: x, y, size, .. */
    private static HailPads sizedAt(int... rows) {
        HailPads pads = new HailPads();
        int[] sizes = {0, 1, 10, 20, 30, 40, 50, 100};
        for (int k = 0; k < 8; k++) {
            pads.table(k, 1 + sizes[k], sizes[k]);
        }
        for (int k = 0; k + 2 < rows.length; k += 3) {
            pads.dent(pads.board(rows[k], rows[k + 1]), 0, 0, 1 + rows[k + 2], 0);
        }
        return pads;
    }

    private static void trackIs(HailPads pads, int count, int lower, int other) {
        due.is("lower of " + count, pads.through(0), lower);
        due.is("other of " + count, pads.through(1), other);
    }

    private static void trackWithout() {
        due.promise("9 track: 0 without two HIT ones at unlike places");
        HailPads pads = new HailPads();
        due.is("no BOARD", pads.track(0, 20, 1000), 0);
        pads.board(1, 1);
        pads.board(9, 9);
        due.is("none SEEN", pads.track(0, 20, 1000), 0);
        pads.clear(0, 5);
        due.is("one HIT", pads.track(0, 20, 1000), 0);
        trackIs(pads, 0, -1, -1);
        pads.clear(1, 6);
        due.is("two, but one not yet", pads.track(0, 20, 5), 0);
        trackIs(pads, 0, -1, -1);
        due.is("two", pads.track(0, 20, 6), 2);
        trackIs(pads, 2, 0, 1);
    }

    private static void trackAtUnlikePlaces() {
        due.promise("III: two BOARDS at unlike places");
        HailPads pads = clearAt(5, 5, 5, 5, 5, 5);
        due.is("three at one place", pads.track(0, 20, 0), 0);
        trackIs(pads, 0, -1, -1);
        pads.clear(pads.board(5, 6), 0);
        due.is("and one beside, in y", pads.track(0, 0, 0), 4);
        trackIs(pads, 4, 0, 3);
        HailPads inX = clearAt(5, 5, 5, 5, 6, 5, 6, 5);
        due.is("and two beside, in x", inX.track(0, 0, 0), 4);
        trackIs(inX, 4, 0, 2);
        HailPads uneven = clearAt(5, 9, 5, 9);
        due.is("two at one place, x not y", uneven.track(0, 20, 0), 0);
        trackIs(uneven, 0, -1, -1);
        int[][] pairs = {{3, 7, 7, 7}, {7, 3, 7, 7}, {7, 7, 3, 7}, {7, 7, 7, 3}, {3, 7, 7, 3}, {0, 0, 63, 63}};
        for (int[] pair : pairs) {
            HailPads two = clearAt(pair);
            due.is("two places, " + pair[0] + ", " + pair[1], two.track(0, 0, 0), 2);
            trackIs(two, 2, 0, 1);
        }
    }

    private static void trackHit() {
        due.promise("III: HIT: SEEN, SIZE at least s");
        HailPads pads = sizedAt(0, 0, 40, 9, 0, 50, 18, 0, 40);
        due.is("39", pads.track(39, 0, 0), 3);
        due.is("40", pads.track(40, 0, 0), 3);
        due.is("41", pads.track(41, 0, 0), 0);
        pads.board(27, 0);
        due.is("SIZE at least 0, but not SEEN", pads.track(0, 0, 0), 3);
        pads.clear(3, 0);
        due.is("SIZE 0 is at least 0", pads.track(0, 0, 0), 4);
        due.is("not at least 1", pads.track(1, 0, 0), 3);
        HailPads edge = sizedAt(0, 0, 1, 9, 0, 1);
        due.is("SIZE 1 is at least 1", edge.track(1, 0, 0), 2);
        due.is("not at least 2", edge.track(2, 0, 0), 0);
        HailPads most = sizedAt(0, 0, 100, 9, 0, 100);
        due.is("SIZE 100 is at least 100", most.track(100, 0, 0), 2);
    }

    private static void trackSmallestAndGreatest() {
        due.promise("III: a width w (0 .. 20)");
        HailPads pads = clearAt(0, 0, 63, 0);
        for (int y = 0; y <= 22; y++) {
            pads.board(30, y);
        }
        for (int w : new int[] {0, 1, 2, 10, 19, 20}) {
            due.is("w " + w, pads.track(0, w, 0), 2);
            for (int y = 0; y <= 22; y++) {
                due.is("w " + w + ", " + y + " off", pads.within(2 + y), y <= w ? 1 : 0);
            }
        }
    }

    private static void trackExactly() {
        due.promise("III: distance squared times the line's length squared, exactly");
        HailPads just = clearAt(0, 0, 63, 60, 13, 40);
        due.is("just 20 off the line", just.track(0, 20, 0), 3);
        trackIs(just, 3, 0, 1);
        due.is("not within 19", just.track(0, 19, 0), 2);
        due.is("not within 19", just.within(2), 0);
        HailPads above = clearAt(0, 0, 58, 62, 25, 56);
        due.is("20.00001 off", above.track(0, 20, 0), 2);
        due.is("not within", above.within(2), 0);
        HailPads below = clearAt(0, 0, 62, 33, 54, 48);
        due.is("16.99999 off", below.track(0, 17, 0), 3);
        trackIs(below, 3, 0, 1);
        due.is("within", below.within(2), 1);
        HailPads turned = clearAt(63, 63, 1, 30, 9, 15);
        due.is("16.99999 off, the other way round", turned.track(0, 17, 0), 3);
        trackIs(turned, 3, 0, 1);
        HailPads row = clearAt(0, 0, 62, 63, 31, 31);
        due.is("half off a row of three", row.track(0, 0, 0), 2);
        due.is("half off is within 1", row.track(0, 1, 0), 3);
    }

    private static void trackIsALine() {
        due.promise("III: lines, not only the piece between both BOARDS");
        HailPads pads = clearAt(30, 30, 31, 31, 0, 0, 63, 63, 63, 0, 0, 63);
        due.is("all on the line", pads.track(0, 0, 0), 4);
        trackIs(pads, 4, 0, 1);
        due.is("far behind one end", pads.within(2), 1);
        due.is("far behind the other", pads.within(3), 1);
        due.is("beside it", pads.within(4), 0);
        due.is("beside it, the other way", pads.within(5), 0);
        HailPads upright = clearAt(7, 63, 7, 0, 8, 30, 6, 30, 7, 1);
        due.is("upright", upright.track(0, 0, 0), 3);
        due.is("1 to the right", upright.within(2), 0);
        due.is("upright, 1 wide", upright.track(0, 1, 0), 5);
    }

    private static void trackMost() {
        due.promise("III: that which has most HIT BOARDS within w of it");
        HailPads pads = clearAt(0, 0, 9, 1, 20, 50, 30, 50, 40, 50);
        due.is("three against two", pads.track(0, 0, 0), 3);
        trackIs(pads, 3, 2, 3);
        // these three lie on a line with 0 and 1, but are not HIT
        pads.board(18, 2);
        pads.board(27, 3);
        pads.board(36, 4);
        due.is("BOARDS that are not HIT don't count", pads.track(0, 0, 0), 3);
        trackIs(pads, 3, 2, 3);
        pads.clear(5, 1);
        due.is("three against three", pads.track(0, 0, 1), 3);
        trackIs(pads, 3, 0, 1);
        pads.clear(6, 2);
        due.is("four", pads.track(0, 0, 2), 4);
        trackIs(pads, 4, 0, 1);
    }

    private static void trackAlike() {
        due.promise("III: of alike ones the one whose lower BOARD is lower, then whose other one is");
        HailPads square = clearAt(0, 0, 0, 9, 9, 0, 9, 9);
        due.is("six lines alike", square.track(0, 0, 0), 2);
        trackIs(square, 2, 0, 1);
        // lines 0, 4, 5 and 1, 2, 3
        HailPads two = clearAt(0, 0, 3, 60, 13, 60, 23, 60, 30, 1, 60, 2);
        due.is("two lines of three", two.track(0, 0, 0), 3);
        trackIs(two, 3, 0, 4);
        // lines 1, 2, 5 and 1, 3, 4; 0 lies on none
        HailPads other = clearAt(50, 3, 0, 0, 10, 10, 0, 30, 0, 41, 20, 20);
        due.is("one lower BOARD", other.track(0, 0, 0), 3);
        trackIs(other, 3, 1, 2);
        HailPads turned = clearAt(50, 3, 0, 0, 0, 30, 10, 10, 20, 20, 0, 41);
        due.is("one lower BOARD, the lines changed", turned.track(0, 0, 0), 3);
        trackIs(turned, 3, 1, 2);
    }

    private static void trackAllFull() {
        due.promise("III: all 30 BOARDS");
        HailPads row = new HailPads();
        for (int b = 0; b < 30; b++) {
            row.clear(row.board(2 * b, 63), 0);
        }
        due.is("on one row", row.track(0, 0, 0), 30);
        trackIs(row, 30, 0, 1);
        HailPads last = new HailPads();
        for (int b = 0; b < 28; b++) {
            last.board(b, 0);
        }
        last.clear(last.board(0, 40), 0);
        last.clear(last.board(63, 41), 0);
        due.is("the last two alone", last.track(0, 20, 0), 2);
        trackIs(last, 2, 28, 29);
        due.is("within 29", last.within(29), 1);
        due.is("within 27", last.within(27), 0);
    }

    private static void latestIsKept() {
        due.promise("9 track, 11 within: kept as the latest, as it was told");
        HailPads pads = sizedAt(0, 0, 40, 10, 0, 40, 20, 2, 30, 30, 3, 10);
        due.is("track", pads.track(40, 2, 0), 2);
        int[] within = {1, 1, 1, 0};
        for (int b = 0; b < 4; b++) {
            due.is("HIT or not " + b, pads.within(b), within[b]);
        }
        pads.dent(0, 0, 0, 1, 0);
        pads.dent(1, 0, 0, 1, 0);
        pads.table(7, 0, 0);
        pads.clear(3, 0);
        trackIs(pads, 2, 0, 1);
        for (int b = 0; b < 4; b++) {
            due.is("what comes later changes nothing " + b, pads.within(b), within[b]);
        }
        due.is("a BOARD that comes later", pads.within(pads.board(63, 2)), 1);
        due.is("another one", pads.within(pads.board(63, 3)), 0);
        due.is("a number that can't be", pads.track(101, 20, 0), -1);
        trackIs(pads, 2, 0, 1);
        due.is("its width is as it was", pads.within(3), 0);
        due.is("another width", pads.track(0, 3, 0), 4);
        due.is("is the latest's", pads.within(3), 1);
    }

    private static void latestIsNone() {
        due.promise("10 through, 11 within: NONE without the latest");
        HailPads pads = new HailPads();
        due.is("a new object", pads.through(0), -1);
        due.is("a new object", pads.through(1), -1);
        pads.clear(pads.board(0, 0), 0);
        pads.clear(pads.board(9, 9), 0);
        trackIs(pads, 0, -1, -1);
        due.is("a BOARD, no TRACK", pads.within(0), -1);
        due.is("a number that can't be draws none", pads.track(0, 21, 0), -1);
        due.is("no TRACK yet", pads.within(0), -1);
        pads.track(0, 5, 0);
        due.is("a TRACK", pads.within(0), 1);
        due.is("no such BOARD", pads.within(2), -1);
        due.is("nothing HIT", pads.track(1, 5, 0), 0);
        trackIs(pads, 0, -1, -1);
        due.is("no TRACK any more", pads.within(0), -1);
        due.is("again a number that can't be", pads.track(0, 5, -1), -1);
        due.is("none still", pads.through(0), -1);
        due.is("drawn again", pads.track(0, 5, 1000), 2);
        due.is("a TRACK again", pads.within(1), 1);
    }

    private static void withinBoards() {
        due.promise("11 within: both its BOARDS lie within, at width 0 too");
        for (int k = 0; k < 64; k += 7) {
            HailPads pads = clearAt(k, 63 - k, 63 - k / 2, k / 3, k, 63 - k);
            due.is("track " + k, pads.track(0, 0, 0), 3);
            due.is("lower " + k, pads.within(0), 1);
            due.is("other " + k, pads.within(1), 1);
            due.is("at the lower one's place " + k, pads.within(2), 1);
        }
    }

    private static void mapWithout() {
        due.promise("IV: NONE without a SEEN BOARD");
        HailPads pads = new HailPads();
        due.is("no BOARD, SIZE", pads.map(0, 0, 0, 0), -1);
        due.is("no BOARD, SURE", pads.map(63, 63, 1000, 1), -1);
        pads.board(0, 0);
        due.is("none SEEN, SIZE", pads.map(0, 0, 1000, 0), -1);
        due.is("none SEEN, SURE", pads.map(0, 0, 1000, 1), -1);
        pads.clear(0, 1000);
        due.is("not yet, SIZE", pads.map(0, 0, 999, 0), -1);
        due.is("not yet, SURE", pads.map(0, 0, 999, 1), -1);
        due.is("SEEN, SIZE 0", pads.map(0, 0, 1000, 0), 0);
        due.is("SEEN, SURE", pads.map(0, 0, 1000, 1), 80);
    }

    private static void mapFewer() {
        due.promise("IV: fewer, if there are not three; less 10 for each that is missing");
        int[] sures = {80, 90, 100, 100};
        int[][] rows = {{5, 5, 50}, {5, 5, 50, 5, 5, 50}, {5, 5, 50, 5, 5, 50, 5, 5, 50},
            {5, 5, 50, 5, 5, 50, 5, 5, 50, 5, 5, 0}};
        for (int k = 0; k < 4; k++) {
            HailPads pads = sizedAt(rows[k]);
            due.is("SIZE of " + (k + 1), pads.map(5, 5, 0, 0), 50);
            due.is("SURE of " + (k + 1), pads.map(5, 5, 0, 1), sures[k]);
        }
        HailPads unseen = sizedAt(5, 5, 50);
        unseen.board(5, 5);
        unseen.board(5, 5);
        due.is("BOARDS that aren't SEEN are missing", unseen.map(5, 5, 0, 1), 80);
    }

    private static void mapNearestThree() {
        due.promise("IV: the three that lie nearest; of alike ones the lower BOARD");
        HailPads fourth = sizedAt(5, 5, 10, 5, 6, 10, 5, 7, 10, 5, 8, 100);
        due.is("the fourth does not count", fourth.map(5, 5, 0, 0), 10);
        due.is("nor in SURE", fourth.map(5, 5, 0, 1), 100);
        HailPads first = sizedAt(5, 8, 100, 5, 7, 10, 5, 6, 10, 5, 5, 10);
        due.is("though it came first", first.map(5, 5, 0, 0), 10);
        due.is("nor in SURE", first.map(5, 5, 0, 1), 100);
        HailPads alike = sizedAt(5, 5, 10, 5, 4, 10, 5, 6, 10, 6, 5, 100, 4, 5, 100);
        due.is("of four alike the lower two", alike.map(5, 5, 0, 0), 10);
        HailPads turned = sizedAt(5, 4, 10, 5, 6, 10, 6, 5, 100, 4, 5, 100, 5, 5, 10);
        due.is("the nearest came last", turned.map(5, 5, 0, 0), 10);
        due.is("SURE", turned.map(5, 5, 0, 1), 100);
        // 3 and 4 off in x and y are as far as 5 off
        HailPads sums = sizedAt(5, 5, 10, 5, 5, 10, 8, 9, 50, 10, 5, 100, 5, 10, 100);
        due.is("alike by squares summed", sums.map(5, 5, 0, 1), 60);
        // 7 in x is farther than 4 and 4
        HailPads squares = sizedAt(5, 5, 10, 5, 5, 10, 12, 5, 100, 9, 9, 50);
        due.is("nearer by squares", squares.map(5, 5, 0, 1), 60);
    }

    private static void mapNearestSeen() {
        due.promise("IV: the three SEEN BOARDS that lie nearest, whatever lies nearer and isn't SEEN");
        HailPads pads = new HailPads();
        for (int k = 0; k < 5; k++) {
            pads.board(5, 5);
        }
        pads.clear(pads.board(5, 10), 0);
        pads.clear(pads.board(10, 5), 0);
        pads.clear(pads.board(0, 5), 0);
        due.is("SIZE", pads.map(5, 5, 0, 0), 0);
        due.is("SURE of three 5 off", pads.map(5, 5, 0, 1), 80);
        pads.clear(2, 1);
        due.is("SURE of one there and two 5 off", pads.map(5, 5, 1, 1), 100);
        due.is("not in the HOUR before", pads.map(5, 5, 0, 1), 80);
    }

    private static void mapAtItsPlace() {
        due.promise("12 map: at a place, x first, then y");
        HailPads pads = sizedAt(40, 5, 100, 5, 40, 0);
        due.is("SIZE at 40, 5", pads.map(40, 5, 0, 0), 99);
        due.is("SIZE at 5, 40", pads.map(5, 40, 0, 0), 0);
        HailPads one = sizedAt(40, 5, 100);
        due.is("SURE at 40, 5", one.map(40, 5, 0, 1), 80);
        due.is("SURE at 43, 5", one.map(43, 5, 0, 1), 68);
        due.is("SURE at 40, 10", one.map(40, 10, 0, 1), 60);
        due.is("SURE at 5, 40", one.map(5, 40, 0, 1), 0);
    }

    private static void mapWeights() {
        due.promise("IV: WEIGHT 10,000 / (1 and that sum), cut; sums divided, cut");
        // off the place 0, 0: 10000 / 5001 = 1.9 and 10000 / 4994 = 2.0
        due.is("1 of 0 and 2 of 50", sizedAt(50, 50, 0, 63, 32, 50).map(0, 0, 0, 0), 33);
        // 10000 / 3333 = 3.0 and 10000 / 3365 = 2.97
        due.is("3 of 100 and 2 of 0", sizedAt(56, 14, 100, 58, 0, 0).map(0, 0, 0, 0), 60);
        // 10000 / 1250 = 8, just, and 10000 / 1301 = 7.6
        due.is("8 of 100 and 7 of 0", sizedAt(15, 32, 100, 30, 20, 0).map(0, 0, 0, 0), 53);
        // 10000 / 137 = 72.99, 10000 / 197 = 50.7 and 10000 / 417 = 23.9
        due.is("72 of 100, 50 and 23 of 0", sizedAt(10, 6, 100, 14, 0, 0, 20, 4, 0).map(0, 0, 0, 0), 49);
        // 10000, 5000 and 3333 of 18333
        HailPads near = sizedAt(0, 0, 100, 1, 0, 0, 1, 1, 0);
        due.is("1000000 / 18333 = 54.5", near.map(0, 0, 0, 0), 54);
        HailPads second = sizedAt(0, 0, 0, 1, 0, 100, 1, 1, 0);
        due.is("500000 / 18333 = 27.3", second.map(0, 0, 0, 0), 27);
        HailPads third = sizedAt(0, 0, 0, 1, 0, 0, 1, 1, 100);
        due.is("333300 / 18333 = 18.2", third.map(0, 0, 0, 0), 18);
        // 5000 and 5000: 1 / 2
        due.is("a half is cut", sizedAt(0, 1, 1, 1, 0, 0).map(0, 0, 0, 0), 0);
        due.is("all 100", sizedAt(0, 0, 100, 0, 0, 100, 0, 0, 100).map(0, 0, 0, 0), 100);
    }

    private static void mapFarthest() {
        due.promise("IV: at the farthest each WEIGHT is 1, so that the nearest one's alone is never due");
        HailPads pads = sizedAt(63, 63, 100, 63, 62, 0, 62, 63, 0);
        due.is("(100 + 0 + 0) / 3", pads.map(0, 0, 0, 0), 33);
        HailPads two = sizedAt(63, 63, 100, 63, 63, 0);
        due.is("(100 + 0) / 2", two.map(0, 0, 0, 0), 50);
        HailPads one = sizedAt(63, 63, 100);
        due.is("one", one.map(0, 0, 0, 0), 100);
        due.is("SURE of it", one.map(0, 0, 0, 1), 0);
    }

    private static void sureSweep() {
        due.promise("IV: SURE: the nearest one's distance (that sum's root, cut) times 4");
        Run run = new Run().call("board", 0, 0).call("board", 0, 0).call("board", 0, 0)
                .call("clear", 0, 0).call("clear", 1, 0).call("clear", 2, 0);
        List<Call> questions = new ArrayList<>();
        List<Integer> sures = new ArrayList<>();
        for (int x = 0; x < 64; x++) {
            for (int y = 0; y <= x; y++) {
                int root = 0;
                while ((root + 1) * (root + 1) <= x * x + y * y) {
                    root++;
                }
                questions.add(new Call("map", x, y, 0, 1));
                sures.add(Math.max(0, 100 - 4 * root));
                questions.add(new Call("map", y, x, 0, 1));
                sures.add(Math.max(0, 100 - 4 * root));
            }
        }
        List<Integer> answers = run.answers(questions);
        for (int k = 0; k < answers.size(); k++) {
            due.is(questions.get(k).toString(), answers.get(k), sures.get(k));
        }
        HailPads nearest = clearAt(20, 0, 9, 0, 3, 0);
        due.is("the nearest one's, 3 off", nearest.map(0, 0, 0, 1), 88);
    }

    private static void sureDifference() {
        due.promise("IV: SURE: less the difference of their greatest and least SIZE");
        int[][] sizes = {{10, 20, 50}, {10, 50, 20}, {20, 10, 50}, {20, 50, 10}, {50, 10, 20}, {50, 20, 10}};
        for (int[] s : sizes) {
            HailPads pads = sizedAt(1, 1, s[0], 2, 1, s[1], 3, 1, s[2], 9, 9, 100, 9, 9, 0);
            due.is(s[0] + ", " + s[1] + ", " + s[2], pads.map(1, 1, 0, 1), 60);
        }
        due.is("alike", sizedAt(1, 1, 50, 1, 1, 50, 1, 1, 50).map(1, 1, 0, 1), 100);
        due.is("1", sizedAt(1, 1, 0, 1, 1, 1, 1, 1, 1).map(1, 1, 0, 1), 99);
        due.is("one BOARD has none", sizedAt(1, 1, 50).map(1, 1, 0, 1), 80);
        due.is("two", sizedAt(1, 1, 50, 1, 1, 10).map(1, 1, 0, 1), 50);
    }

    private static void sureAtLeastNone() {
        due.promise("IV: SURE at least 0");
        HailPads pads = sizedAt(0, 0, 0, 0, 0, 100, 0, 0, 0);
        due.is("100 less 100", pads.map(0, 0, 0, 1), 0);
        due.is("100 less 100 less 4", pads.map(1, 0, 0, 1), 0);
        HailPads two = sizedAt(0, 0, 10, 0, 0, 50);
        due.is("12 off: 100 - 48 - 10 - 40", two.map(12, 0, 0, 1), 2);
        due.is("13 off: -2", two.map(13, 0, 0, 1), 0);
        HailPads three = sizedAt(0, 0, 10, 0, 0, 50, 0, 0, 50);
        due.is("14 off: 100 - 56 - 40", three.map(14, 0, 0, 1), 4);
        due.is("15 off: 100 - 60 - 40", three.map(15, 0, 0, 1), 0);
        due.is("16 off: -4", three.map(16, 0, 0, 1), 0);
        HailPads one = sizedAt(0, 0, 10);
        due.is("20 off: 100 - 80 - 20", one.map(20, 0, 0, 1), 0);
        due.is("19 off", one.map(19, 0, 0, 1), 4);
        due.is("SIZE is there all the same", one.map(20, 0, 0, 0), 10);
    }

    private static void mapOfAnHour() {
        due.promise("IV: the MAP as known in an HOUR");
        HailPads pads = sizedAt(5, 5, 10);
        pads.clear(pads.board(5, 5), 10);
        pads.dent(pads.board(5, 5), 0, 0, 101, 20);
        int[] hours = {0, 9, 10, 19, 20, 1000};
        int[] sizes = {10, 10, 5, 5, 36, 36};
        int[] sures = {80, 80, 80, 80, 0, 0};
        for (int k = 0; k < hours.length; k++) {
            due.is("SIZE in " + hours[k], pads.map(5, 5, hours[k], 0), sizes[k]);
            due.is("SURE in " + hours[k], pads.map(5, 5, hours[k], 1), sures[k]);
        }
        pads.table(2, 11, 30);
        due.is("by the TABLE as it is now", pads.map(5, 5, 0, 0), 30);
    }

    private static void radarSquares() {
        due.promise("IV: squares of 8 times 8 places (0 .. 7 each way)");
        HailPads pads = clearAt(0, 0);
        for (int square = 0; square < 64; square++) {
            due.is("radar " + square, pads.radar(square / 8, square % 8, 1 + square), 0);
        }
        due.is("squares", pads.count(5), 64);
        for (int square = 0; square < 64; square++) {
            int x = square / 8 * 8;
            int y = square % 8 * 8;
            due.is("lowest of " + square, pads.off(x, y, 0), 1 + square);
            due.is("highest of " + square, pads.off(x + 7, y + 7, 0), 1 + square);
            due.is("x highest of " + square, pads.off(x + 7, y, 0), 1 + square);
            due.is("y highest of " + square, pads.off(x, y + 7, 0), 1 + square);
        }
        HailPads one = clearAt(0, 0);
        one.radar(3, 5, 9);
        due.is("inside", one.off(24, 40, 0), 9);
        due.is("inside", one.off(31, 47, 0), 9);
        due.is("left of it", one.off(23, 40, 0), NOTHING);
        due.is("right of it", one.off(32, 47, 0), NOTHING);
        due.is("below it", one.off(24, 39, 0), NOTHING);
        due.is("above it", one.off(31, 48, 0), NOTHING);
    }

    private static void radarSizes() {
        due.promise("13 radar: SIZE NONE: not told any more");
        HailPads pads = clearAt(0, 0);
        due.is("NONE ahead of any", pads.radar(2, 2, -1), 0);
        due.is("no square", pads.count(5), 0);
        due.is("0", pads.radar(2, 2, 0), 0);
        due.is("is told", pads.count(5), 1);
        due.is("OFF", pads.off(16, 16, 0), 0);
        due.is("100", pads.radar(2, 2, 100), 0);
        due.is("one square all the same", pads.count(5), 1);
        due.is("OFF", pads.off(16, 16, 0), 100);
        due.is("another", pads.radar(2, 3, 7), 0);
        due.is("two squares", pads.count(5), 2);
        due.is("NONE", pads.radar(2, 2, HailPads.NONE), 0);
        due.is("not told any more", pads.off(16, 16, 0), NOTHING);
        due.is("the other is", pads.off(16, 24, 0), 7);
        due.is("one square", pads.count(5), 1);
        due.is("NONE again", pads.radar(2, 2, HailPads.NONE), 0);
        due.is("one square still", pads.count(5), 1);
    }

    private static void offEitherWay() {
        due.promise("IV: OFF: RADAR less MAP");
        HailPads pads = sizedAt(0, 0, 100);
        int[] told = {0, 1, 99, 100};
        for (int size : told) {
            pads.radar(0, 0, size);
            due.is("RADAR " + size + " less 100", pads.off(0, 0, 0), size - 100);
        }
        HailPads none = clearAt(0, 0);
        for (int size : told) {
            none.radar(7, 7, size);
            due.is("RADAR " + size + " less 0", none.off(63, 63, 0), size);
        }
    }

    private static void offAtItsPlace() {
        due.promise("14 off: RADAR and MAP at one place, x first, then y");
        HailPads pads = sizedAt(40, 5, 100, 5, 40, 0);
        pads.radar(5, 0, 50);
        due.is("at 40, 5", pads.off(40, 5, 0), -49);
        due.is("at 5, 40", pads.off(5, 40, 0), NOTHING);
        pads.radar(0, 5, 60);
        due.is("at 40, 5 as before", pads.off(40, 5, 0), -49);
        due.is("at 5, 40 now", pads.off(5, 40, 0), 60);
        // in the square, 2 off the BOARD in x and 1 in y: 1666 of 100 and 3 of 0
        due.is("at 42, 6", pads.off(42, 6, 0), -49);
        due.is("in the HOUR that is asked for", hourly().off(0, 0, 9), 50);
        due.is("and in a later one", hourly().off(0, 0, 10), 20);
    }

    /** CLEAR from HOUR 0 on, SIZE 30 from HOUR 10 on, RADAR 50. */
    private static HailPads hourly() {
        HailPads pads = clearAt(0, 0);
        pads.table(7, 1, 30);
        pads.dent(0, 0, 0, 1, 10);
        pads.radar(0, 0, 50);
        return pads;
    }

    private static void offWithout() {
        due.promise("14 off: NOTHING without RADAR, MAP");
        HailPads pads = new HailPads();
        due.is("neither", pads.off(0, 0, 0), NOTHING);
        pads.board(0, 0);
        pads.radar(0, 0, 50);
        due.is("RADAR alone", pads.off(0, 0, 1000), NOTHING);
        pads.clear(0, 10);
        due.is("MAP not yet", pads.off(0, 0, 9), NOTHING);
        due.is("both", pads.off(0, 0, 10), 50);
        due.is("MAP alone", pads.off(8, 0, 10), NOTHING);
        pads.radar(0, 0, -1);
        due.is("no RADAR any more", pads.off(0, 0, 10), NOTHING);
    }
}
