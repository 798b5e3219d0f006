import java.math.BigInteger;
import java.util.ArrayList;
import java.util.Comparator;
import java.util.HashMap;
import java.util.List;
import java.util.Map;
import java.util.regex.Matcher;
import java.util.regex.Pattern;

/**
 * The document a second time, slow and without anything kept between calls, to hold the class against.
 * It shares no code and no way of working with it: texts by patterns, balls as objects, snapshots as lists.
 */
public final class Twin {
    private static final Pattern[] SHAPES = {
        Pattern.compile("([0-7][0-8][lrtb](;[0-7][0-8][lrtb]){0,11})?"),
        Pattern.compile("[0-9]{0,9}"),
        Pattern.compile("([a-x][1-9](;[a-x][1-9]){0,11})?")};
    private static final int[] LIMITS = {47, 9, 35};
    private static final int BAD = -2, NOT = -3, FULL = -4;

    record Pin(int row, int column, int sort) { }

    record Shot(int tick, int hard) { }

    record Event(int kind, int tick, int number) { }

    record Sight(int tick, int row, int column, int ball) { }

    record Spot(int row, int column) { }

    /** A ball while it runs. */
    private static final class Ball {
        Shot shot;
        int row = -1;
        int column = -1;
        int brings = 0;
        int end = -1;
        int held = 0;

        boolean onBoard() {
            return row >= 0 && row <= 7;
        }
    }

    /** All that comes of a board. */
    private static final class Outcome {
        final List<Ball> balls = new ArrayList<>();
        final List<List<Spot>> behind = new ArrayList<>();
        final int[] heldIn = new int[24];
        final List<List<Ball>> cups = new ArrayList<>();
        final int[] ever = new int[9];
        int rings = 0;

        int score() {
            return balls.stream().mapToInt(b -> b.brings).sum();
        }

        int lost() {
            return (int) balls.stream().filter(b -> b.row == 9).count();
        }

        int who(int tick, int row, int column) {
            return behind.get(tick).indexOf(new Spot(row, column));
        }
    }

    /** A pin while balls run. */
    private static final class Peg {
        final int sort;
        boolean toLeft;

        Peg(int sort) {
            this.sort = sort;
            toLeft = sort != 1;
        }
    }

    private final StringBuilder[] texts = {new StringBuilder(), new StringBuilder(), new StringBuilder()};
    private int room = 2;
    private final List<Event> events = new ArrayList<>();
    private final List<Sight> sights = new ArrayList<>();
    private final Object[] sheets = new Object[4];
    private int finding = 0;

    // ---- texts

    private static boolean twoPinsAlike(String text) {
        List<String> spots = new ArrayList<>();
        for (int i = 0; i + 1 < text.length(); i += 4) {
            String spot = text.substring(i, i + 2);
            if (spots.contains(spot)) {
                return true;
            }
            spots.add(spot);
        }
        return false;
    }

    private static boolean mayGoOn(int which, String start) {
        Matcher m = SHAPES[which].matcher(start);
        boolean shape = m.matches() || m.hitEnd();
        return shape && !(which == 0 && twoPinsAlike(start));
    }

    private static int faultOf(int which, String text) {
        for (int n = 1; n <= text.length(); n++) {
            if (!mayGoOn(which, text.substring(0, n))) {
                return n - 1;
            }
        }
        return SHAPES[which].matcher(text).matches() ? -1 : text.length();
    }

    private String good(int which) {
        String text = texts[which].toString();
        return faultOf(which, text) == -1 ? text : "";
    }

    private List<Pin> pins() {
        List<Pin> pins = new ArrayList<>();
        for (String p : good(0).split(";")) {
            if (!p.isEmpty()) {
                pins.add(new Pin(p.charAt(0) - '0', p.charAt(1) - '0', "lrtb".indexOf(p.charAt(2))));
            }
        }
        return pins;
    }

    private List<Shot> shots() {
        List<Shot> shots = new ArrayList<>();
        for (String b : good(2).split(";")) {
            if (!b.isEmpty()) {
                shots.add(new Shot(b.charAt(0) - 'a', b.charAt(1) - '0'));
            }
        }
        return shots;
    }

    private int worth(int column) {
        String cups = good(1);
        return column < cups.length() ? cups.charAt(column) - '0' : 0;
    }

    // ---- the run

    private Outcome outcome() {
        return outcome(pins(), shots(), events);
    }

    private Outcome outcome(List<Pin> pins, List<Shot> shots, List<Event> done) {
        Outcome o = new Outcome();
        for (Shot shot : shots) {
            Ball ball = new Ball();
            ball.shot = shot;
            o.balls.add(ball);
        }
        for (int c = 0; c < 9; c++) {
            o.cups.add(new ArrayList<>());
        }
        List<Peg> pegs = new ArrayList<>();
        Map<Spot, Peg> pegAt = new HashMap<>();
        for (Pin pin : pins) {
            Peg peg = new Peg(pin.sort());
            pegs.add(peg);
            pegAt.put(new Spot(pin.row(), pin.column()), peg);
        }
        for (int tick = 0; tick < 24; tick++) {
            for (Event e : done) {
                if (e.tick() == tick) {
                    perform(e, o, pegs);
                }
            }
            fall(tick, o, pegAt);
            comeIn(tick, o);
            List<Spot> spots = new ArrayList<>();
            o.balls.forEach(b -> spots.add(new Spot(b.row, b.column)));
            o.behind.add(spots);
        }
        return o;
    }

    private static Ball ballAt(Outcome o, int row, int column) {
        for (Ball b : o.balls) {
            if (b.row == row && b.column == column) {
                return b;
            }
        }
        return null;
    }

    private static void perform(Event e, Outcome o, List<Peg> pegs) {
        if (e.kind() == 0) {
            int step = e.number() % 2 == 1 ? 1 : -1;
            List<Ball> order = new ArrayList<>(o.balls);
            order.removeIf(b -> !b.onBoard());
            order.sort(Comparator.comparingInt(b -> -step * b.column));
            for (Ball b : order) {
                int to = b.column + step;
                if (to >= 0 && to <= 8 && ballAt(o, b.row, to) == null) {
                    b.column = to;
                }
            }
        } else if (e.kind() == 1) {
            if (e.number() < pegs.size()) {
                pegs.get(e.number()).toLeft = !pegs.get(e.number()).toLeft;
            }
        } else if (e.number() < 9) {
            o.cups.get(e.number()).clear();
        }
    }

    private void fall(int tick, Outcome o, Map<Spot, Peg> pegAt) {
        List<Ball> order = new ArrayList<>(o.balls);
        order.removeIf(b -> !b.onBoard());
        order.sort(Comparator.comparingInt((Ball b) -> -b.row).thenComparingInt(o.balls::indexOf));
        for (Ball b : order) {
            Peg peg = pegAt.get(new Spot(b.row, b.column));
            int to = b.column;
            if (peg != null && peg.sort != 3) {
                to += peg.toLeft ? -1 : 1;
            }
            if (to == -1 || to == 9) {
                to = b.column;
            }
            if (b.row < 7 && ballAt(o, b.row + 1, to) != null) {
                b.held++;
                o.heldIn[tick]++;
                continue;
            }
            if (peg != null && peg.sort == 2) {
                peg.toLeft = !peg.toLeft;
            }
            if (peg != null && peg.sort == 3) {
                o.rings++;
                b.brings += 2;
            }
            b.row++;
            b.column = to;
            if (b.row == 8) {
                b.end = tick;
                if (o.cups.get(to).size() < room) {
                    o.cups.get(to).add(b);
                    o.ever[to]++;
                    b.brings += worth(to);
                } else {
                    b.row = 9;
                }
            }
        }
    }

    private static void comeIn(int tick, Outcome o) {
        for (Ball b : o.balls) {
            if (b.row == -1 && b.shot.tick() <= tick && ballAt(o, 0, b.shot.hard() - 1) == null) {
                b.row = 0;
                b.column = b.shot.hard() - 1;
            }
        }
    }

    private static <T> List<T> with(List<T> list, int i, T item) {
        List<T> changed = new ArrayList<>(list);
        changed.set(i, item);
        return changed;
    }

    private static <T> List<T> without(List<T> list, int... gone) {
        List<T> left = new ArrayList<>();
        for (int i = 0; i < list.size(); i++) {
            boolean stays = true;
            for (int g : gone) {
                stays &= g != i;
            }
            if (stays) {
                left.add(list.get(i));
            }
        }
        return left;
    }

    // ---- the face

    private static boolean no(int v, int least, int most) {
        return v < least || v > most;
    }

    private int found(int number) {
        finding = number;
        return -10 - number;
    }

    public int type(int text, int b) {
        if (no(text, 0, 2) || no(b, 0, 255)) {
            return BAD;
        }
        if (texts[text].length() == LIMITS[text]) {
            return FULL;
        }
        return texts[text].append((char) b).length();
    }

    public int wipe(int text) {
        if (no(text, 0, 2)) {
            return BAD;
        }
        int had = texts[text].length();
        texts[text].setLength(0);
        return had;
    }

    public int undo(int text) {
        if (no(text, 0, 2)) {
            return BAD;
        }
        if (texts[text].length() == 0) {
            return NOT;
        }
        texts[text].setLength(texts[text].length() - 1);
        return texts[text].length();
    }

    public int fault(int text) {
        return no(text, 0, 2) ? BAD : faultOf(text, texts[text].toString());
    }

    public int pin(int pin, int what) {
        if (no(pin, 0, pins().size() - 1) || no(what, 0, 2)) {
            return BAD;
        }
        Pin p = pins().get(pin);
        return what == 0 ? p.row() : what == 1 ? p.column() : p.sort();
    }

    public int cup(int column, int what) {
        if (no(column, 0, 8) || no(what, 0, 2)) {
            return BAD;
        }
        Outcome o = outcome();
        return what == 0 ? worth(column) : what == 1 ? o.cups.get(column).size() : o.ever[column];
    }

    public int ball(int ball, int what) {
        if (no(ball, 0, shots().size() - 1) || no(what, 0, 1)) {
            return BAD;
        }
        return what == 0 ? shots().get(ball).tick() : shots().get(ball).hard();
    }

    public int room(int v) {
        if (no(v, 1, 9)) {
            return BAD;
        }
        int was = room;
        room = v;
        return was;
    }

    public int event(int kind, int tick, int number) {
        if (no(kind, 0, 2) || no(tick, 0, 23) || no(number, 0, 11)) {
            return BAD;
        }
        if (events.size() == 8) {
            return FULL;
        }
        events.add(new Event(kind, tick, number));
        return events.size();
    }

    public int back() {
        if (events.isEmpty()) {
            return NOT;
        }
        events.remove(events.size() - 1);
        return events.size();
    }

    public int read(int s) {
        if (no(s, 0, 3)) {
            return BAD;
        }
        if (sheets[s] == null) {
            return found(1);
        }
        int n = 0;
        while (3 * n + 2 < length(s) && event(item(s, 3 * n), item(s, 3 * n + 1), item(s, 3 * n + 2)) > 0) {
            n++;
        }
        return n;
    }

    public int at(int tick, int ball, int what) {
        if (no(tick, 0, 23) || no(ball, 0, shots().size() - 1) || no(what, 0, 1)) {
            return BAD;
        }
        Spot spot = outcome().behind.get(tick).get(ball);
        return what == 0 ? spot.row() : spot.column();
    }

    public int sees(int tick, int row, int column) {
        if (no(tick, 0, 23) || no(row, 0, 7) || no(column, 0, 8)) {
            return BAD;
        }
        return outcome().who(tick, row, column);
    }

    public int ends(int ball, int what) {
        if (no(ball, 0, shots().size() - 1) || no(what, 0, 2)) {
            return BAD;
        }
        Ball b = outcome().balls.get(ball);
        return what == 0 ? b.brings : what == 1 ? b.end : b.held;
    }

    public int sum(int what) {
        if (no(what, 0, 2)) {
            return BAD;
        }
        Outcome o = outcome();
        return what == 0 ? o.score() : what == 1 ? o.rings : o.lost();
    }

    public int late() {
        int bits = 0;
        List<Ball> balls = outcome().balls;
        for (Ball b : balls) {
            bits += b.row < 8 ? 1 << balls.indexOf(b) : 0;
        }
        return bits;
    }

    public int best() {
        List<Ball> balls = outcome().balls;
        int most = balls.stream().mapToInt(b -> b.brings).max().orElse(0);
        for (Ball b : balls) {
            if (most > 0 && b.brings == most) {
                return balls.indexOf(b);
            }
        }
        return -1;
    }

    public int jam(int what) {
        if (no(what, 0, 1)) {
            return BAD;
        }
        int[] held = outcome().heldIn;
        int tick = 0;
        for (int t = 0; t < 24; t++) {
            tick = held[t] > held[tick] ? t : tick;
        }
        return what == 0 ? tick : held[tick];
    }

    private static int best(List<Integer> scores, int first, int what) {
        int most = scores.stream().max(Comparator.naturalOrder()).orElse(0);
        return what == 0 ? first + scores.indexOf(most) : most;
    }

    public int shoot(int ball, int what) {
        if (no(ball, 0, shots().size() - 1) || no(what, 0, 1)) {
            return BAD;
        }
        List<Integer> scores = new ArrayList<>();
        for (int hard = 1; hard <= 9; hard++) {
            scores.add(shotAs(ball, shots().get(ball).tick(), hard).score());
        }
        return best(scores, 1, what);
    }

    private Outcome shotAs(int ball, int tick, int hard) {
        return outcome(pins(), with(shots(), ball, new Shot(tick, hard)), events);
    }

    public int time(int ball, int what) {
        if (no(ball, 0, shots().size() - 1) || no(what, 0, 1)) {
            return BAD;
        }
        List<Integer> scores = new ArrayList<>();
        for (int tick = 0; tick <= 23; tick++) {
            scores.add(shotAs(ball, tick, shots().get(ball).hard()).score());
        }
        return best(scores, 0, what);
    }

    private Outcome bentTo(int pin, int sort) {
        Pin p = pins().get(pin);
        return outcome(with(pins(), pin, new Pin(p.row(), p.column(), sort)), shots(), events);
    }

    public int bend(int pin, int what) {
        if (no(pin, 0, pins().size() - 1) || no(what, 0, 1)) {
            return BAD;
        }
        List<Integer> scores = new ArrayList<>();
        for (int sort = 0; sort <= 3; sort++) {
            scores.add(bentTo(pin, sort).score());
        }
        return best(scores, 0, what);
    }

    public int spare(int i) {
        if (no(i, -1, 1)) {
            return BAD;
        }
        List<int[]> rows = new ArrayList<>();
        rows.add(new int[0]);
        for (int a = 0; a < events.size(); a++) {
            rows.add(new int[] {a});
        }
        for (int a = 0; a < events.size(); a++) {
            for (int b = a + 1; b < events.size(); b++) {
                rows.add(new int[] {a, b});
            }
        }
        for (int[] row : rows) {
            if (outcome(pins(), shots(), without(events, row)).lost() == 0) {
                return i == -1 ? row.length : i < row.length ? row[i] : -1;
            }
        }
        return -1;
    }

    public int seen(int tick, int row, int column, int ball) {
        if (no(tick, 0, 23) || no(row, 0, 7) || no(column, 0, 8) || no(ball, 0, 12)) {
            return BAD;
        }
        if (sights.size() == 8) {
            return FULL;
        }
        sights.add(new Sight(tick, row, column, ball));
        return sights.size();
    }

    public int forget() {
        int had = sights.size();
        sights.clear();
        return had;
    }

    private boolean comesOut(Outcome o) {
        for (Sight s : sights) {
            int who = o.who(s.tick(), s.row(), s.column());
            if (s.ball() == 12 ? who != -1 : who != s.ball()) {
                return false;
            }
        }
        return true;
    }

    public int never() {
        int bits = 0;
        for (int e = 0; e < events.size(); e++) {
            bits += comesOut(outcome(pins(), shots(), without(events, e))) ? 1 << e : 0;
        }
        return bits;
    }

    public int forces(int ball) {
        if (no(ball, 0, shots().size() - 1)) {
            return BAD;
        }
        int bits = 0;
        for (int hard = 1; hard <= 9; hard++) {
            bits += comesOut(shotAs(ball, shots().get(ball).tick(), hard)) ? 1 << hard : 0;
        }
        return bits;
    }

    public int kind(int pin) {
        if (no(pin, 0, pins().size() - 1)) {
            return BAD;
        }
        int bits = 0;
        for (int sort = 0; sort <= 3; sort++) {
            bits += comesOut(bentTo(pin, sort)) ? 1 << sort : 0;
        }
        return bits;
    }

    public int ask(int ball) {
        if (no(ball, 0, shots().size() - 1)) {
            return BAD;
        }
        int[] greatest = new int[24];
        List<Map<List<Spot>, Integer>> groups = new ArrayList<>();
        for (int tick = 0; tick < 24; tick++) {
            groups.add(new HashMap<>());
        }
        for (int hard = 1; hard <= 9; hard++) {
            Outcome o = shotAs(ball, shots().get(ball).tick(), hard);
            for (int tick = 0; tick < 24 && comesOut(o); tick++) {
                int n = groups.get(tick).merge(o.behind.get(tick), 1, Integer::sum);
                greatest[tick] = Math.max(greatest[tick], n);
            }
        }
        int best = 0;
        for (int tick = 0; tick < 24; tick++) {
            best = greatest[tick] < greatest[best] ? tick : best;
        }
        return best;
    }

    public long chance(int c, int ball, int what) {
        if (no(c, 0, 16) || no(ball, 0, shots().size() - 1) || no(what, 0, 1)) {
            return Long.MIN_VALUE + 2;
        }
        BigInteger above = ways(c, ball, 0, new ArrayList<>());
        BigInteger below = BigInteger.valueOf(16).pow(events.size());
        BigInteger common = above.gcd(below);
        return (what == 0 ? above : below).divide(common).longValueExact();
    }

    private BigInteger ways(int c, int ball, int from, List<Event> done) {
        if (from == events.size()) {
            boolean any = outcome(pins(), shots(), done).balls.get(ball).brings > 0;
            return any ? BigInteger.ONE : BigInteger.ZERO;
        }
        List<Event> more = new ArrayList<>(done);
        more.add(events.get(from));
        return ways(c, ball, from + 1, more).multiply(BigInteger.valueOf(c))
            .add(ways(c, ball, from + 1, done).multiply(BigInteger.valueOf(16 - c)));
    }

    public int sundays(int seed, int n, int what) {
        if (no(n, 0, 12) || no(what, 0, 1)) {
            return BAD;
        }
        List<Shot> shots = new ArrayList<>();
        int now = seed;
        for (int i = 0; i < n; i++) {
            now = 1103515245 * now + 12345;
            int tick = (int) ((now & 0xffffffffL) / 65536 % 24);
            now = 1103515245 * now + 12345;
            shots.add(new Shot(tick, (int) ((now & 0xffffffffL) / 65536 % 9) + 1));
        }
        Outcome o = outcome(pins(), shots, events);
        return what == 0 ? o.score() : o.lost();
    }

    // ---- sheets

    private int form(int s) {
        return sheets[s] instanceof byte[] ? 0 : sheets[s] instanceof short[] ? 1 : 2;
    }

    private int length(int s) {
        return java.lang.reflect.Array.getLength(sheets[s]);
    }

    private int item(int s, int i) {
        return java.lang.reflect.Array.getInt(sheets[s], i);
    }

    private void put(int s, int i, int v) {
        if (sheets[s] instanceof byte[] b) {
            b[i] = (byte) v;
        } else if (sheets[s] instanceof short[] h) {
            h[i] = (short) v;
        } else if (sheets[s] instanceof int[] n) {
            n[i] = v;
        }
    }

    public int sheet(int s, int form, int n) {
        if (no(s, 0, 3) || no(form, 0, 2) || n > 60) {
            return BAD;
        }
        if (n < 0) {
            return found(5);
        }
        sheets[s] = form == 0 ? new byte[n] : form == 1 ? new short[n] : new int[n];
        return n;
    }

    public int lose(int s) {
        if (no(s, 0, 3)) {
            return BAD;
        }
        if (sheets[s] == null) {
            return found(1);
        }
        int had = length(s);
        sheets[s] = null;
        return had;
    }

    public int lay(int s, int form, int i, int v) {
        if (no(s, 0, 3) || no(form, 0, 2)) {
            return BAD;
        }
        if (sheets[s] == null) {
            return found(1);
        }
        if (form(s) != form) {
            return found(3);
        }
        if (no(i, 0, length(s) - 1)) {
            return found(2);
        }
        put(s, i, v);
        return 1;
    }

    public int get(int s, int form, int i) {
        if (no(s, 0, 3) || no(form, 0, 2)) {
            return Integer.MIN_VALUE;
        }
        if (sheets[s] == null || form(s) != form || no(i, 0, length(s) - 1)) {
            finding = sheets[s] == null ? 1 : form(s) != form ? 3 : 2;
            return Integer.MIN_VALUE;
        }
        return item(s, i);
    }

    public int copy(int s, int i, int t, int j, int n) {
        if (no(s, 0, 3) || no(t, 0, 3)) {
            return BAD;
        }
        if (sheets[s] == null || sheets[t] == null) {
            return found(1);
        }
        if (form(s) != form(t)) {
            return found(4);
        }
        if (i < 0 || j < 0 || n < 0 || (long) i + n > length(s) || (long) j + n > length(t)) {
            return found(2);
        }
        int[] were = new int[n];
        for (int k = 0; k < n; k++) {
            were[k] = item(s, i + k);
        }
        for (int k = 0; k < n; k++) {
            put(t, j + k, were[k]);
        }
        return 1;
    }

    public int write(int ball, int s) {
        if (no(ball, 0, shots().size() - 1) || no(s, 0, 3)) {
            return BAD;
        }
        if (sheets[s] == null) {
            return found(1);
        }
        int n = 0;
        while (n < 24 && n < length(s)) {
            put(s, n, at(n, ball, 0));
            n++;
        }
        return n;
    }

    public int count(int what) {
        int bytes = texts[0].length() + texts[1].length() + texts[2].length();
        int on = (int) outcome().balls.stream().filter(Ball::onBoard).count();
        int[] counts = {pins().size(), shots().size(), bytes, events.size(), sum(0), room, on, sights.size(), finding};
        return no(what, 0, 8) ? BAD : counts[what];
    }

    public long digest() {
        return Digests.of((name, args) -> Digests.call(this, name, args));
    }
}
