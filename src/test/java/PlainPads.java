import java.util.ArrayList;
import java.util.Collections;
import java.util.Comparator;
import java.util.List;
import java.util.Map;
import java.util.TreeMap;
import java.util.regex.Matcher;
import java.util.regex.Pattern;

/** The document once more, with the Java library, and nothing kept but what was told. */
final class PlainPads {
    private record Place(int x, int y) {
    }

    private record Dent(int board, int number, int hand, int width, int known) {
    }

    private record Claim(int x, int y, int worth, int said) {
    }

    private record Token(String text, int at) {
    }

    private record Latest(int lower, int other, int width) {
    }

    /** Which TOKEN can't go on, as an answer of the reader's. */
    private static final class Fault extends Exception {
        private static final long serialVersionUID = 1L;
        final int at;

        Fault(int at) {
            this.at = at;
        }
    }

    private static final Pattern TOKENS = Pattern.compile("[a-z]+|[0-9]+|[^ ]", Pattern.DOTALL);

    private final List<Place> boards = new ArrayList<>();
    private final List<Dent> dents = new ArrayList<>();
    private final List<int[]> clears = new ArrayList<>();
    private final Map<Place, Integer> radars = new TreeMap<>(
            Comparator.comparingInt(Place::x).thenComparingInt(Place::y));
    private final int[][] table = new int[8][2];
    private final List<Claim> claims = new ArrayList<>();
    private String tape = "";
    private List<List<String>> rules = List.of();
    private int fault = -1;
    private int status = 0;
    private Latest track = null;

    int call(String name, int[] a) {
        switch (name) {
            case "board": return tell(board(a[0], a[1]));
            case "dent": return tell(dent(new Dent(a[0], a[1], a[2], a[3], a[4])));
            case "clear": return tell(clear(a[0], a[1]));
            case "table": return tell(table(a[0], a[1], a[2]));
            case "radar": return tell(radar(a[0], a[1], a[2]));
            case "rules": return tell(rules());
            case "claim": return tell(claim(new Claim(a[0], a[1], a[2], a[3])));
            case "of": return of(a[0], a[1], a[2], a[3]);
            case "leaning": return hand(a[0]) && hour(a[1]) ? leaning(a[0], a[1]) : -1000;
            case "seen": return seen(a[0], a[1], a[2]);
            case "track": return track(a[0], a[1], a[2]);
            case "through": return through(a[0]);
            case "within": return within(a[0]);
            case "map": return map(a[0], a[1], a[2], a[3]);
            case "off": return off(a[0], a[1], a[2]);
            case "feed": return feed(a);
            case "end": return end(a[0]);
            case "fault": return fault;
            case "judged": return judged(a[0], a[1]);
            case "quarrel": return quarrel(a[0], a[1]);
            case "count": return count(a[0]);
            case "status": return status;
            default: throw new IllegalStateException(name);
        }
    }

    private int tell(int answer) {
        status = Math.min(answer, 0);
        return answer;
    }

    private static boolean in(int n, int least, int most) {
        return least <= n && n <= most;
    }

    private static boolean hour(int n) {
        return in(n, 0, 1000);
    }

    private static boolean hand(int n) {
        return in(n, 0, 7);
    }

    private static boolean place(int x, int y) {
        return in(x, 0, 63) && in(y, 0, 63);
    }

    private boolean isBoard(int b) {
        return in(b, 0, boards.size() - 1);
    }

    private int board(int x, int y) {
        if (!place(x, y)) return -1;
        if (boards.size() == 30) return -5;
        boards.add(new Place(x, y));
        return boards.size() - 1;
    }

    private int dent(Dent d) {
        if (!in(d.number, 0, 9) || !hand(d.hand) || !in(d.width, 1, 400) || !hour(d.known)) return -1;
        if (!isBoard(d.board)) return -2;
        if (dents.size() == 300) return -5;
        dents.add(d);
        return dents.size();
    }

    private int clear(int b, int known) {
        if (!hour(known)) return -1;
        if (!isBoard(b)) return -2;
        clears.add(new int[] {b, known});
        return 0;
    }

    private int table(int k, int width, int size) {
        if (!in(k, 0, 7) || !in(width, 0, 400) || !in(size, 0, 100)) return -1;
        table[k] = new int[] {width, size};
        return 0;
    }

    private int radar(int i, int k, int size) {
        if (!in(i, 0, 7) || !in(k, 0, 7) || !in(size, -1, 100)) return -1;
        if (size == -1) radars.remove(new Place(i, k));
        else radars.put(new Place(i, k), size);
        return 0;
    }

    private int claim(Claim c) {
        if (!place(c.x, c.y) || !in(c.worth, 0, 100_000) || !in(c.said, 0, 100)) return -1;
        if (claims.size() == 40) return -5;
        claims.add(c);
        return claims.size() - 1;
    }

    private static int middle(List<Integer> numbers) {
        List<Integer> sorted = new ArrayList<>(numbers);
        Collections.sort(sorted);
        return sorted.get((sorted.size() - 1) / 2);
    }

    /** A dent's widths by HAND, as known in an HOUR. */
    private Map<Integer, Integer> widths(int b, int number, int known) {
        Map<Integer, Integer> widths = new TreeMap<>();
        for (Dent d : dents) {
            if (d.board == b && d.number == number && d.known <= known) widths.put(d.hand, d.width);
        }
        return widths;
    }

    private int leaning(int hand, int known) {
        List<Integer> over = new ArrayList<>();
        for (int b = 0; b < boards.size(); b++) {
            for (int n = 0; n < 10; n++) {
                Map<Integer, Integer> widths = widths(b, n, known);
                if (widths.size() > 1 && widths.containsKey(hand)) {
                    over.add(widths.get(hand) - middle(new ArrayList<>(widths.values())));
                }
            }
        }
        return over.isEmpty() ? 0 : middle(over);
    }

    private int trueWidth(Map<Integer, Integer> widths, int known) {
        List<Integer> less = new ArrayList<>();
        widths.forEach((hand, width) -> less.add(Math.max(1, width - leaning(hand, known))));
        return middle(less);
    }

    private int stone(int wide) {
        for (int width = wide; width >= 0; width--) {
            for (int k = 7; k >= 0; k--) {
                if (table[k][0] == width) return table[k][1];
            }
        }
        return 0;
    }

    private int of(int b, int number, int known, int what) {
        if (!isBoard(b) || !in(number, 0, 9) || !hour(known)) return -1;
        Map<Integer, Integer> widths = widths(b, number, known);
        if (widths.isEmpty()) return -1;
        if (what == 0) return middle(new ArrayList<>(widths.values()));
        if (what == 1) return trueWidth(widths, known);
        if (what == 2) return stone(trueWidth(widths, known));
        return what == 3 ? widths.size() : -1;
    }

    private int seen(int b, int known, int what) {
        if (!isBoard(b) || !hour(known) || !in(what, 0, 2)) return -1;
        List<Integer> sizes = new ArrayList<>();
        for (int n = 0; n < 10; n++) {
            int size = of(b, n, known, what == 0 ? 2 : 3);
            if (size != -1) sizes.add(size);
        }
        boolean clear = clears.stream().anyMatch(c -> c[0] == b && c[1] <= known);
        if (what == 1) return sizes.size();
        if (what == 2) return clear || !sizes.isEmpty() ? 1 : 0;
        return sizes.isEmpty() ? (clear ? 0 : -1) : Collections.max(sizes);
    }

    private boolean near(int i, int j, int b, int width) {
        long dx = boards.get(j).x - boards.get(i).x;
        long dy = boards.get(j).y - boards.get(i).y;
        long c = boards.get(i).x * dy - boards.get(i).y * dx;
        long from = boards.get(b).x * dy - boards.get(b).y * dx - c;
        return from * from <= (dx * dx + dy * dy) * width * width;
    }

    private int track(int size, int width, int known) {
        if (!in(size, 0, 100) || !in(width, 0, 20) || !hour(known)) return -1;
        List<Integer> hit = new ArrayList<>();
        for (int b = 0; b < boards.size(); b++) {
            if (seen(b, known, 2) == 1 && seen(b, known, 0) >= size) hit.add(b);
        }
        track = null;
        long most = 0;
        for (int i : hit) {
            for (int j : hit) {
                if (i >= j || boards.get(i).equals(boards.get(j))) continue;
                long hits = hit.stream().filter(b -> near(i, j, b, width)).count();
                if (hits > most) {
                    most = hits;
                    track = new Latest(i, j, width);
                }
            }
        }
        return (int) most;
    }

    private int through(int which) {
        if (track == null || !in(which, 0, 1)) return -1;
        return which == 0 ? track.lower : track.other;
    }

    private int within(int b) {
        if (track == null || !isBoard(b)) return -1;
        return near(track.lower, track.other, b, track.width) ? 1 : 0;
    }

    private int apart(int b, int x, int y) {
        int dx = boards.get(b).x - x;
        int dy = boards.get(b).y - y;
        return dx * dx + dy * dy;
    }

    private int map(int x, int y, int known, int what) {
        if (!place(x, y) || !hour(known) || !in(what, 0, 1)) return -1;
        List<Integer> near = new ArrayList<>();
        for (int b = 0; b < boards.size(); b++) {
            if (seen(b, known, 2) == 1) near.add(b);
        }
        near.sort(Comparator.comparingInt(b -> apart(b, x, y)));
        near = near.subList(0, Math.min(3, near.size()));
        if (near.isEmpty()) return -1;
        List<Integer> sizes = near.stream().map(b -> seen(b, known, 0)).toList();
        int weights = 0;
        int sum = 0;
        for (int k = 0; k < near.size(); k++) {
            int weight = 10_000 / (1 + apart(near.get(k), x, y));
            weights += weight;
            sum += weight * sizes.get(k);
        }
        if (what == 0) return sum / weights;
        int distance = (int) Math.floor(Math.sqrt(apart(near.get(0), x, y)));
        return Math.max(0, 100 - 4 * distance - 10 * (3 - near.size())
                - (Collections.max(sizes) - Collections.min(sizes)));
    }

    private int off(int x, int y, int known) {
        if (!place(x, y) || !hour(known)) return -1000;
        Integer told = radars.get(new Place(x / 8, y / 8));
        int map = map(x, y, known, 0);
        return told == null || map == -1 ? -1000 : told - map;
    }

    private int feed(int[] five) {
        if (tape.length() + 20 > 200) return -1;
        for (int number : five) {
            for (byte b : java.nio.ByteBuffer.allocate(4).putInt(number).array()) {
                tape += (char) (b & 255);
            }
        }
        return tape.length();
    }

    private int end(int n) {
        if (!in(n, 0, tape.length())) return -1;
        tape = tape.substring(0, n);
        return n;
    }

    private int rules() {
        List<Token> tokens = new ArrayList<>();
        Matcher found = TOKENS.matcher(tape);
        while (found.find()) tokens.add(new Token(found.group(), found.start()));
        tokens.add(new Token("", tape.length()));
        tape = "";
        fault = -1;
        try {
            rules = parse(tokens);
            return rules.size();
        } catch (Fault f) {
            fault = f.at;
            return -6;
        }
    }

    /** By the forms of a RULE, "#" a NUMBER: a form that fits the tokens so far goes on. */
    private static List<List<String>> parse(List<Token> tokens) throws Fault {
        List<List<String>> read = new ArrayList<>();
        if (tokens.size() == 1) return read;
        int t = 0;
        while (true) {
            if (read.size() == 20) throw new Fault(tokens.get(t).at);
            List<String> form = switch (tokens.get(t).text) {
                case "loss" -> List.of("loss", "#", "from", "#");
                case "radar" -> List.of("radar", "off", "#");
                case "bear" -> List.of("bear", "#");
                default -> throw new Fault(tokens.get(t).at);
            };
            List<String> rule = new ArrayList<>();
            t = follow(tokens, t, form, rule);
            if (rule.get(0).equals("loss") && tokens.get(t).text.equals("sure")) {
                t = follow(tokens, t, List.of("sure", "#"), rule);
            }
            read.add(rule);
            if (tokens.get(t).text.isEmpty()) return read;
            t = follow(tokens, t, List.of(";"), new ArrayList<>());
        }
    }

    private static int follow(List<Token> tokens, int t, List<String> form, List<String> into) throws Fault {
        for (String want : form) {
            Token token = tokens.get(t);
            boolean fits = want.equals("#")
                    ? token.text.matches("0*(100|[0-9]?[0-9])") : want.equals(token.text);
            if (!fits) throw new Fault(token.at);
            into.add(token.text);
            t++;
        }
        return t;
    }

    private int judged(int claim, int known) {
        if (!in(claim, 0, claims.size() - 1) || !hour(known)) return -1;
        Claim c = claims.get(claim);
        int size = map(c.x, c.y, known, 0);
        int sure = map(c.x, c.y, known, 1);
        if (size == -1) return -2;
        int part = 0;
        int bear = 0;
        int most = 1000;
        for (List<String> rule : rules) {
            int first = Integer.parseInt(rule.get(rule.get(0).equals("radar") ? 2 : 1));
            switch (rule.get(0)) {
                case "radar" -> most = first;
                case "bear" -> bear = first;
                default -> {
                    int from = Integer.parseInt(rule.get(3));
                    if (from <= size && (rule.size() == 4 || Integer.parseInt(rule.get(5)) <= sure)) {
                        part = Math.max(part, first);
                    }
                }
            }
        }
        int off = off(c.x, c.y, known);
        if (off != -1000 && Math.abs(off) > most) return -2;
        return (int) ((long) c.worth * Math.max(0, Math.min(part, c.said) - bear) / 100);
    }

    private int quarrel(int b, int known) {
        if (!isBoard(b) || !hour(known)) return -1;
        int most = 0;
        for (int n = 0; n < 10; n++) {
            List<Integer> widths = new ArrayList<>(widths(b, n, known).values());
            for (int one : widths) {
                for (int two : widths) most = Math.max(most, one - two);
            }
        }
        return most;
    }

    private int count(int what) {
        return switch (what) {
            case 0 -> boards.size();
            case 1 -> dents.size();
            case 2 -> rules.size();
            case 3 -> claims.size();
            case 4 -> tape.length();
            case 5 -> radars.size();
            default -> -1;
        };
    }
}
