/** States that the tests of boundaries start from. */
final class States {
    static final String RULES = "loss 50 from 0; loss 90 from 40 sure 70; radar off 100; bear 5";
    static final String TAPE = "loss 80 from 10; radar off 3; bear 1   ";

    private States() {
    }

    static Run empty() {
        return new Run();
    }

    /** Something of each kind: 3 BOARDS with all numbers, 3 CLAIMS, each square with RADAR. */
    static Run some() {
        Run run = new Run();
        for (int k = 0; k < 8; k++) {
            run.call("table", k, 10 * k, 10 * k);
        }
        run.call("board", 10, 10).call("board", 20, 10).call("board", 10, 20);
        for (int cell = 0; cell < 30; cell++) {
            run.call("dent", cell / 10, cell % 10, cell % 8, 20 + cell, 0);
        }
        run.call("dent", 0, 0, 1, 44, 5).call("dent", 0, 0, 2, 47, 5).call("dent", 1, 9, 1, 60, 999);
        run.call("clear", 2, 7);
        for (int square = 0; square < 64; square++) {
            run.call("radar", square / 8, square % 8, square);
        }
        run.call("claim", 10, 10, 1000, 100).call("claim", 20, 10, 100000, 60).call("claim", 63, 63, 7, 1);
        run.rules(RULES).text(TAPE);
        return run.call("track", 20, 3, 1000);
    }

    /** No room for any more: 30 BOARDS, 300 DENTS, 40 CLAIMS, 200 bytes. */
    static Run full() {
        Run run = new Run();
        for (int k = 0; k < 8; k++) {
            run.call("table", k, 10 * k, 10 * k);
        }
        for (int b = 0; b < 30; b++) {
            run.call("board", 2 * b, 63 - b * b % 17);
        }
        for (int d = 0; d < 300; d++) {
            run.call("dent", d / 10, d * 7 % 5, d % 8, 1 + d * 37 % 100, d % 3);
        }
        for (int c = 0; c < 40; c++) {
            run.call("claim", c, 63 - c, 1000 + c, 100 - c);
        }
        run.call("radar", 1, 1, 30).call("clear", 29, 1).rules(RULES);
        for (int k = 0; k < 10; k++) {
            run.call("feed", Texts.four("bear", 0), Texts.four(" 7  ", 0), Texts.four("    ", 0),
                    Texts.four("    ", 0), Texts.four("  ; ", 0));
        }
        return run.call("end", 199).call("end", 180).call("feed", Texts.four("bear", 0), Texts.four(" 8  ", 0),
                Texts.four("    ", 0), Texts.four("    ", 0), Texts.four("    ", 0)).call("track", 20, 3, 1000);
    }
}
