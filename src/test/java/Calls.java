/** Calls a method of HailPads by its name. */
final class Calls {
    private Calls() {
    }

    static int answer(HailPads pads, String name, int[] a) {
        switch (name) {
            case "board": return pads.board(a[0], a[1]);
            case "dent": return pads.dent(a[0], a[1], a[2], a[3], a[4]);
            case "clear": return pads.clear(a[0], a[1]);
            case "table": return pads.table(a[0], a[1], a[2]);
            case "of": return pads.of(a[0], a[1], a[2], a[3]);
            case "leaning": return pads.leaning(a[0], a[1]);
            case "seen": return pads.seen(a[0], a[1], a[2]);
            case "track": return pads.track(a[0], a[1], a[2]);
            case "through": return pads.through(a[0]);
            case "within": return pads.within(a[0]);
            case "map": return pads.map(a[0], a[1], a[2], a[3]);
            case "radar": return pads.radar(a[0], a[1], a[2]);
            case "off": return pads.off(a[0], a[1], a[2]);
            case "feed": return pads.feed(a[0], a[1], a[2], a[3], a[4]);
            case "end": return pads.end(a[0]);
            case "rules": return pads.rules();
            case "fault": return pads.fault();
            case "claim": return pads.claim(a[0], a[1], a[2], a[3]);
            case "judged": return pads.judged(a[0], a[1]);
            case "quarrel": return pads.quarrel(a[0], a[1]);
            case "count": return pads.count(a[0]);
            case "status": return pads.status();
            default: throw new IllegalStateException(name);
        }
    }
}
