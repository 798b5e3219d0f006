import java.util.function.Supplier;

/** Each promise of the document by cases worked out by hand: ordinary ones, edges, refusals. */
public final class PromisesTest extends Asked {
    public static void main(String[] args) {
        newObject();
        texts();
        faults();
        pinsCupsBalls();
        roomAndEvents();
        reading();
        fallingStraight();
        leaning();
        turning();
        ringing();
        holding();
        comingIn();
        tilting();
        knocking();
        emptying();
        gutter();
        sums();
        shooting();
        timing();
        bending();
        sparing();
        seeing();
        asking();
        chances();
        sundays();
        sheets();
        copying();
        writing();
        counts();
        digests();
        digestOfSpares();
        finish();
    }

    private static void newObject() {
        Bagatelle x = new Bagatelle();
        int[] counts = {0, 0, 0, 0, 0, 2, 0, 0, 0};
        for (int what = 0; what < counts.length; what++) {
            due(1, "count " + what + " of a new one", x.count(what), counts[what]);
        }
        for (int i = 0; i < 3; i++) {
            due(1, "fault of a new text", x.fault(i), NONE);
            due(1, "bytes of a new text", x.wipe(i), 0);
        }
        for (int s = 0; s < 4; s++) {
            due(1, "a new sheet is lost", x.lose(s), NULL);
        }
        due(1, "no event", x.back(), NOT);
        due(1, "room", x.room(2), 2);
        for (int column = 0; column < 9; column++) {
            due(1, "worth", x.cup(column, 0), 0);
        }
    }

    private static void texts() {
        Bagatelle x = new Bagatelle();
        int[] limits = {47, 9, 35};
        due(2, "no such text", x.type(-1, 50), BAD);
        due(2, "no such text", x.type(3, 50), BAD);
        due(2, "no byte", x.type(0, -1), BAD);
        due(2, "no byte", x.type(0, 256), BAD);
        due(2, "nothing came of it", x.count(2), 0);
        for (int text = 0; text < 3; text++) {
            due(2, "the least byte", x.type(text, 0), 1);
            due(2, "the greatest byte", x.type(text, 255), 2);
            for (int n = 3; n <= limits[text]; n++) {
                due(2, "byte more", x.type(text, 49), n);
            }
            due(2, "full", x.type(text, 49), FULL);
            due(2, "bad ahead of full", x.type(text, 256), BAD);
            due(4, "undone", x.undo(text), limits[text] - 1);
            due(2, "room for one again", x.type(text, 49), limits[text]);
        }
        due(38, "bytes", x.count(2), 91);
        due(3, "wipe", x.wipe(0), 47);
        due(3, "wipe again", x.wipe(0), 0);
        due(3, "others stay", x.count(2), 44);
        due(3, "bad", x.wipe(-1), BAD);
        due(3, "bad", x.wipe(3), BAD);
        due(4, "bad", x.undo(-1), BAD);
        due(4, "bad", x.undo(3), BAD);
        due(4, "not", x.undo(0), NOT);
        due(4, "undo", x.undo(1), 8);
        due(4, "undo", x.undo(1), 7);
        due(4, "bytes left", x.count(2), 42);
        x.wipe(1);
        typed(x, 1, "45");
        due(4, "worth", x.cup(1, 0), 5);
        x.undo(1);
        due(4, "the last one is undone", x.cup(1, 0), 0);
        due(4, "the first one stays", x.cup(0, 0), 4);
    }

    private static void faultDue(int text, String bytes, int want) {
        Bagatelle x = new Bagatelle();
        typed(x, text, bytes);
        due(5, "fault of \"" + bytes + "\"", x.fault(text), want);
    }

    private static void faults() {
        due(5, "bad", new Bagatelle().fault(-1), BAD);
        due(5, "bad", new Bagatelle().fault(3), BAD);
        String[] pins = {"", "0", "8", "/", "00", "09", "0/", "00l", "08r", "70t", "78b", "00x", "00L", "00l;", "00l,", "00l0",
            "00l;0", "00l;00", "00l;01r", "00l;10r", "00l;;", ";", "x", "00l;01", "00l;01r;", "00l;01r;01", "00l;01r;00b", "00x;9"};
        int[] pinFaults = {NONE, 1, 0, 0, 2, 1, 1, NONE, NONE, NONE, NONE, 2, 2, 4, 3, 3,
            5, 5, NONE, NONE, 4, 0, 0, 6, 8, 9, 9, 2};
        for (int i = 0; i < pins.length; i++) {
            faultDue(0, pins[i], pinFaults[i]);
        }
        faultDue(0, TWELVE_PINS, NONE);
        faultDue(0, TWELVE_PINS.substring(0, 46), 46);
        faultDue(0, TWELVE_PINS.substring(0, 44), 44);
        String[] cups = {"", "0", "9", ":", "/", "123456789", "12;", "1a2", "12345678x"};
        int[] cupFaults = {NONE, NONE, NONE, 0, 0, NONE, 2, 1, 8};
        for (int i = 0; i < cups.length; i++) {
            faultDue(1, cups[i], cupFaults[i]);
        }
        String[] balls = {"", "a", "x", "y", "`", "a1", "x9", "a0", "a:", "A1", "a1;", "a1;b", "a1;b2", "a1;a1", "a1b", "a12",
            "a1;;", ";", "a1;b2;", "a1;b2;y", "a1;b0;y"};
        int[] ballFaults = {NONE, 1, 1, 0, 0, NONE, NONE, 1, 1, 0, 3, 4, NONE, NONE, 2, 2, 3, 0, 6, 6, 4};
        for (int i = 0; i < balls.length; i++) {
            faultDue(2, balls[i], ballFaults[i]);
        }
        faultDue(2, TWELVE_BALLS, NONE);
        faultDue(2, TWELVE_BALLS.substring(0, 33), 33);
        Bagatelle x = told("00l;11r", "12", "a1;b1");
        for (int text = 0; text < 3; text++) {
            x.wipe(text);
            due(3, "an empty one is well", x.fault(text), NONE);
        }
        due(3, "no pins", x.count(0), 0);
        due(3, "no balls", x.count(1), 0);
        x = told("00l;", "12x", "a1;");
        due(5, "with a fault no pins", x.count(0), 0);
        due(5, "with a fault no balls", x.count(1), 0);
        due(5, "with a fault no cups", x.cup(0, 0), 0);
        due(5, "bytes all the same", x.count(2), 10);
        due(5, "no pin", x.pin(0, 0), BAD);
        due(5, "no ball", x.ball(0, 0), BAD);
    }

    private static void pinsCupsBalls() {
        Bagatelle x = told("10l;28r;73t;05b", "1203", "a1;x9;g5");
        int[][] pins = {{1, 0, 0}, {2, 8, 1}, {7, 3, 2}, {0, 5, 3}};
        for (int pin = 0; pin < 4; pin++) {
            for (int what = 0; what < 3; what++) {
                due(6, "pin " + pin, x.pin(pin, what), pins[pin][what]);
            }
        }
        due(6, "bad pin", x.pin(4, 0), BAD);
        due(6, "bad pin", x.pin(-1, 0), BAD);
        due(6, "bad what", x.pin(0, 3), BAD);
        due(6, "bad what", x.pin(0, -1), BAD);
        x.event(1, 0, 0);
        due(6, "as told, though knocked", x.pin(0, 2), 0);
        int[] worths = {1, 2, 0, 3, 0, 0, 0, 0, 0};
        for (int column = 0; column < 9; column++) {
            due(7, "worth", x.cup(column, 0), worths[column]);
        }
        due(7, "bad column", x.cup(-1, 0), BAD);
        due(7, "bad column", x.cup(9, 0), BAD);
        due(7, "bad what", x.cup(0, -1), BAD);
        due(7, "bad what", x.cup(0, 3), BAD);
        int[][] balls = {{0, 1}, {23, 9}, {6, 5}};
        for (int ball = 0; ball < 3; ball++) {
            due(8, "tick", x.ball(ball, 0), balls[ball][0]);
            due(8, "hard", x.ball(ball, 1), balls[ball][1]);
        }
        due(8, "bad ball", x.ball(3, 0), BAD);
        due(8, "bad ball", x.ball(-1, 0), BAD);
        due(8, "bad what", x.ball(0, 2), BAD);
        due(8, "bad what", x.ball(0, -1), BAD);
    }

    private static void roomAndEvents() {
        Bagatelle x = told("", "5", "a1;b1;c1");
        due(9, "least", x.room(1), 2);
        due(9, "room for one", x.sum(0), 5);
        due(9, "most", x.room(9), 1);
        due(9, "room for all", x.sum(0), 15);
        due(9, "bad", x.room(0), BAD);
        due(9, "bad", x.room(10), BAD);
        due(9, "it stays", x.count(5), 9);
        int[][] bad = {{-1, 0, 0}, {3, 0, 0}, {0, -1, 0}, {0, 24, 0}, {0, 0, -1}, {0, 0, 12}};
        for (int[] e : bad) {
            due(10, "bad", x.event(e[0], e[1], e[2]), BAD);
        }
        for (int n = 1; n <= 8; n++) {
            due(10, "event more", x.event(n % 3, n == 1 ? 23 : 0, n == 2 ? 11 : 0), n);
        }
        due(10, "full", x.event(0, 0, 0), FULL);
        due(10, "bad ahead of full", x.event(3, 0, 0), BAD);
        due(10, "eight", x.count(3), 8);
        for (int n = 7; n >= 0; n--) {
            due(11, "back", x.back(), n);
        }
        due(11, "not", x.back(), NOT);
        Bagatelle y = told("14l", "", "a5");
        y.event(1, 1, 0);
        due(11, "knocked", y.at(2, 0, 1), 5);
        y.back();
        due(11, "not knocked", y.at(2, 0, 1), 3);
    }

    private static void reading() {
        Bagatelle x = told("14l", "", "a5");
        due(12, "bad", x.read(-1), BAD);
        due(12, "bad", x.read(4), BAD);
        due(12, "null", x.read(0), NULL);
        due(12, "finding", x.count(8), 1);
        lay(x, 0, 2, 1, 1, 0, 0, 2, 0, 2, 3);
        due(12, "two are whole", x.read(0), 2);
        due(12, "tilted away from the pin", x.at(2, 0, 1), 3);
        due(12, "two events", x.count(3), 2);
        x.back();
        due(12, "the first one was the knock", x.at(2, 0, 1), 5);
        Bagatelle third = told("04l;14l", "", "a5;b5");
        lay(third, 0, 1, 2, 9, 0, 2, 9, 0, 1, 2, 1);
        due(12, "three", third.read(0), 3);
        due(12, "the third one is a knock of the second pin", third.at(2, 1, 1), 3);
        Bagatelle numbers = told("04l;14l;24l", "", "a5");
        lay(numbers, 0, 2, 2, 9, 0, 1, 1, 0);
        due(12, "two", numbers.read(0), 2);
        due(12, "the second one is a knock of pin 0", numbers.at(1, 0, 1), 5);
        third.wipe(0);
        typed(third, 0, "24r;04l");
        due(12, "which is another one now", third.at(2, 1, 1), 5);
        x.back();
        for (int form = 0; form < 3; form++) {
            lay(x, 1, form, 1, 1, 0, 0, 24, 0, 0, 0, 0);
            due(12, "up to the one that may not be", x.read(1), 1);
        }
        due(12, "behind those told", x.count(3), 3);
        lay(x, 2, 0, 3, 0, 0, 0, 0, 0);
        due(12, "the first one may not be", x.read(2), 0);
        x.sheet(3, 1, 60);
        due(12, "as long as there is place", x.read(3), 5);
        due(12, "eight", x.count(3), 8);
        due(12, "no place", x.read(3), 0);
        x.sheet(3, 1, 2);
        x.back();
        due(12, "none is whole", x.read(3), 0);
        x.sheet(3, 1, 0);
        due(12, "no items", x.read(3), 0);
        due(12, "seven still", x.count(3), 7);
    }

    private static void fallingStraight() {
        Bagatelle x = told("", "12345", "c3");
        due(13, "not in", x.at(1, 0, 0), NONE);
        due(13, "not in", x.at(1, 0, 1), NONE);
        for (int tick = 2; tick < 10; tick++) {
            due(13, "row", x.at(tick, 0, 0), tick - 2);
            due(13, "column", x.at(tick, 0, 1), 2);
            due(14, "who", x.sees(tick, tick - 2, 2), 0);
        }
        due(14, "who comes in first of all calls", told("", "", "a1;a9").sees(0, 0, 8), 1);
        due(13, "the first cell", told("", "", "a1").at(0, 0, 1), 0);
        due(14, "not above", x.sees(5, 2, 2), NONE);
        due(14, "not beside", x.sees(5, 3, 3), NONE);
        due(13, "in a cup", x.at(10, 0, 0), 8);
        due(13, "in a cup", x.at(23, 0, 0), 8);
        due(13, "below its column", x.at(23, 0, 1), 2);
        due(15, "brings", x.ends(0, 0), 3);
        due(15, "tick", x.ends(0, 1), 10);
        due(15, "held", x.ends(0, 2), 0);
        due(7, "in it", x.cup(2, 1), 1);
        due(7, "ever", x.cup(2, 2), 1);
        int[][] bad = {{-1, 0, 0}, {24, 0, 0}, {0, -1, 0}, {0, 1, 0}, {0, 0, -1}, {0, 0, 2}};
        for (int[] b : bad) {
            due(13, "bad", x.at(b[0], b[1], b[2]), BAD);
        }
        int[][] badSees = {{-1, 0, 0}, {24, 0, 0}, {0, -1, 0}, {0, 8, 0}, {0, 0, -1}, {0, 0, 9}};
        for (int[] b : badSees) {
            due(14, "bad", x.sees(b[0], b[1], b[2]), BAD);
        }
        due(15, "bad", x.ends(-1, 0), BAD);
        due(15, "bad", x.ends(1, 0), BAD);
        due(15, "bad", x.ends(0, -1), BAD);
        due(15, "bad", x.ends(0, 3), BAD);
        Bagatelle late = told("", "9", "p1;q1");
        due(15, "falls in with the last tick", late.ends(0, 1), 23);
        due(15, "does not fall in", late.ends(1, 1), NONE);
        due(13, "still in the lowest row", late.at(23, 1, 0), 7);
        due(17, "late", late.late(), 2);
        due(38, "on the board", late.count(6), 1);
    }

    private static void leaning() {
        Bagatelle x = told("24l;33r;45r", "", "a5");
        int[] columns = {4, 4, 4, 3, 4, 4, 4, 4, 4};
        for (int tick = 0; tick < columns.length; tick++) {
            due(13, "column in tick " + tick, x.at(tick, 0, 1), columns[tick]);
        }
        Bagatelle edges = told("00l;08r;70l;78r", "", "a1;a9");
        due(13, "left edge", edges.at(1, 0, 1), 0);
        due(13, "right edge", edges.at(1, 1, 1), 8);
        due(13, "left edge at the bottom", edges.at(8, 0, 1), 0);
        due(13, "right edge at the bottom", edges.at(8, 1, 1), 8);
        Bagatelle low = told("74l", "000500000", "a5");
        due(15, "into the cup to which it goes", low.ends(0, 0), 5);
        due(13, "column of that cup", low.at(8, 0, 1), 3);
    }

    private static void turning() {
        Bagatelle x = told("04t", "", "a5;b5;c5;d5");
        for (int ball = 0; ball < 4; ball++) {
            due(13, "every second one", x.at(ball + 1, ball, 1), ball % 2 == 0 ? 3 : 5);
        }
        Bagatelle edge = told("00t", "", "a1;b1;c1");
        due(13, "straight at the edge", edge.at(1, 0, 1), 0);
        due(13, "turned all the same", edge.at(2, 1, 1), 1);
        due(13, "and again", edge.at(3, 2, 1), 0);
        Bagatelle right = told("08t", "", "a9;b9;c9");
        due(13, "left", right.at(1, 0, 1), 7);
        due(13, "straight at the edge", right.at(2, 1, 1), 8);
        due(13, "left again", right.at(3, 2, 1), 7);
    }

    private static void ringing() {
        Bagatelle x = told("34b;74b", "000070000", "a5;b5");
        due(13, "straight down", x.at(4, 0, 1), 4);
        due(15, "two rings and the cup", x.ends(0, 0), 11);
        due(16, "rings", x.sum(1), 4);
        due(16, "score", x.sum(0), 22);
        Bagatelle up = told("04b", "", "w5");
        due(15, "brings though it is on the board", up.ends(0, 0), 2);
        due(17, "and late", up.late(), 1);
        due(18, "and best", up.best(), 0);
    }

    private static void holding() {
        Bagatelle x = told("13r", "", "a4;a5");
        due(13, "the first one goes", x.at(2, 0, 1), 4);
        due(13, "the second one stays", x.at(2, 1, 0), 1);
        due(13, "then goes", x.at(3, 1, 0), 2);
        due(15, "held once", x.ends(1, 2), 1);
        due(15, "never held", x.ends(0, 2), 0);
        due(15, "a tick later", x.ends(1, 1), 9);
        due(19, "jam tick", x.jam(0), 2);
        due(19, "jam many", x.jam(1), 1);
        Bagatelle turned = told("13r", "", "a5;a4");
        due(13, "by numbers", turned.at(2, 0, 0), 2);
        due(13, "by numbers", turned.at(2, 1, 0), 1);
        Bagatelle bell = told("13r;14b", "", "a4;a5");
        due(16, "none rings that is held", bell.sum(1), 1);
        due(15, "it rings later", bell.ends(1, 0), 2);
        Bagatelle turns = told("13r;15t", "", "a4;a6;b6");
        due(13, "held", turns.at(2, 1, 0), 1);
        due(13, "not turned", turns.at(3, 1, 1), 4);
        due(13, "then turned", turns.at(4, 2, 1), 6);
        Bagatelle low = told("73r", "000030000", "a4;a5");
        due(15, "none is held at the bottom", low.ends(1, 2), 0);
        due(7, "both in", low.cup(4, 1), 2);
        Bagatelle lowest = told("63r", "", "a4;a5");
        due(15, "held above the lowest row", lowest.ends(1, 2), 1);
        lowest.wipe(0);
        due(15, "not held any more", lowest.ends(1, 2), 0);
        due(19, "no jam any more", lowest.jam(1), 0);
        Bagatelle first = told("03r", "", "a4;a5");
        due(19, "the first tick that may be", first.jam(0), 1);
        Bagatelle chain = told("13r", "", "a4;a5;b5");
        due(13, "one behind the one that is held", chain.at(2, 2, 0), 0);
        due(15, "is held by it", chain.ends(2, 2), 1);
        due(19, "two are held", chain.jam(1), 2);
    }

    private static void comingIn() {
        Bagatelle x = told("", "", "a5;a5;a5");
        for (int ball = 0; ball < 3; ball++) {
            due(13, "waits", ball == 0 ? NONE : x.at(ball - 1, ball, 0), NONE);
            due(13, "comes in", x.at(ball, ball, 0), 0);
        }
        due(15, "waiting is not being held", x.ends(2, 2), 0);
        Bagatelle y = told("", "", "b5;a5");
        due(13, "its own tick", y.at(0, 1, 0), 0);
        due(13, "its own tick", y.at(1, 0, 0), 0);
        Bagatelle z = told("03r", "", "a4;a5;b5");
        due(13, "held in row 0", z.at(1, 1, 0), 0);
        due(13, "so it waits", z.at(1, 2, 0), NONE);
        due(13, "and comes in", z.at(2, 2, 0), 0);
        Bagatelle last = told("", "", "x5;x5");
        due(13, "in with the last tick", last.at(23, 0, 0), 0);
        due(13, "never in", last.at(23, 1, 0), NONE);
        due(17, "both late", last.late(), 3);
        due(38, "one on the board", last.count(6), 1);
    }

    private static void tilting() {
        Bagatelle x = told("", "", "a4;a5");
        x.event(0, 1, 11);
        due(10, "right", x.at(1, 0, 1), 4);
        due(10, "right", x.at(1, 1, 1), 5);
        due(10, "and falls", x.at(1, 0, 0), 1);
        x.event(0, 2, 10);
        due(10, "left", x.at(2, 0, 1), 3);
        due(10, "left", x.at(2, 1, 1), 4);
        Bagatelle edge = told("", "", "a9;a8;a1;a2;b9");
        edge.event(0, 1, 1);
        due(10, "at the edge", edge.at(1, 0, 1), 8);
        due(10, "behind it", edge.at(1, 1, 1), 7);
        due(10, "free", edge.at(1, 2, 1), 1);
        due(10, "free", edge.at(1, 3, 1), 2);
        due(10, "not in yet", edge.at(1, 4, 1), 8);
        Bagatelle left = told("", "", "a1;a2;a9");
        left.event(0, 1, 0);
        due(10, "at the edge", left.at(1, 0, 1), 0);
        due(10, "behind it", left.at(1, 1, 1), 1);
        due(10, "free", left.at(1, 2, 1), 7);
        Bagatelle both = told("14l", "", "a4");
        both.event(0, 2, 1);
        due(10, "a tilt onto a pin ahead of the fall", both.at(2, 0, 1), 3);
        Bagatelle order = told("", "", "a9");
        order.event(0, 1, 1);
        order.event(0, 1, 0);
        due(10, "right (at the edge), then left", order.at(1, 0, 1), 7);
        Bagatelle other = told("", "", "a9");
        other.event(0, 1, 0);
        other.event(0, 1, 1);
        due(10, "left, then right", other.at(1, 0, 1), 8);
        Bagatelle cup = told("", "", "a5");
        cup.event(0, 9, 1);
        due(10, "one in a cup stays", cup.at(9, 0, 1), 4);
    }

    private static void knocking() {
        for (int tick = 0; tick < 4; tick++) {
            Bagatelle x = told("14l;24r", "", "a5");
            x.event(1, tick, 0);
            due(10, "knocked in tick " + tick, x.at(2, 0, 1), tick <= 2 ? 5 : 3);
        }
        Bagatelle twice = told("04r", "", "a5;b5;c5");
        twice.event(1, 2, 0);
        twice.event(1, 3, 0);
        due(10, "not yet", twice.at(1, 0, 1), 5);
        due(10, "knocked", twice.at(2, 1, 1), 3);
        due(10, "knocked back", twice.at(3, 2, 1), 5);
        Bagatelle turns = told("04t", "", "a5;b5;c5");
        turns.event(1, 2, 0);
        due(10, "left", turns.at(1, 0, 1), 3);
        due(10, "left again", turns.at(2, 1, 1), 3);
        due(10, "then right", turns.at(3, 2, 1), 5);
        Bagatelle bell = told("04b", "", "a5");
        bell.event(1, 0, 0);
        bell.event(1, 1, 11);
        due(10, "a bell stays", bell.at(1, 0, 1), 4);
        due(10, "and rings", bell.sum(1), 1);
    }

    private static void emptying() {
        Bagatelle x = told("", "7", "a1;b1");
        x.room(1);
        due(7, "room for one", x.cup(0, 2), 1);
        x.event(2, 9, 0);
        due(10, "emptied ahead of the fall", x.sum(0), 14);
        due(7, "one in it", x.cup(0, 1), 1);
        due(7, "two ever", x.cup(0, 2), 2);
        due(13, "one that was in a cup", x.at(9, 0, 0), 8);
        due(17, "is not late", x.late(), 0);
        x.event(2, 23, 0);
        due(7, "none in it", x.cup(0, 1), 0);
        due(7, "two ever", x.cup(0, 2), 2);
        due(15, "what it brings stays", x.ends(1, 0), 7);
        Bagatelle early = told("", "7", "a1;b1");
        early.room(1);
        early.event(2, 8, 0);
        early.event(2, 9, 1);
        early.event(2, 9, 9);
        early.event(2, 9, 11);
        due(10, "too early, or another cup, or none", early.sum(0), 7);
    }

    private static void gutter() {
        Bagatelle x = told("75l", "", "a5;b5;c5;d6");
        due(13, "room for two", x.at(9, 1, 0), 8);
        due(13, "gutter", x.at(10, 2, 0), 9);
        due(13, "gutter", x.at(23, 2, 0), 9);
        due(13, "its column", x.at(10, 2, 1), 4);
        due(13, "the column to which it went", x.at(11, 3, 1), 4);
        due(15, "its tick", x.ends(2, 1), 10);
        due(16, "lost", x.sum(2), 2);
        due(17, "not late", x.late(), 0);
        due(7, "in the cup", x.cup(4, 1), 2);
        due(7, "ever", x.cup(4, 2), 2);
        Bagatelle ahead = told("", "", "b1;a1");
        ahead.room(1);
        due(16, "ball 0 is lost", ahead.sum(2), 1);
        Bagatelle bell = told("74b", "000090000", "a5;b5;c5");
        due(15, "the gutter brings nothing but the ring", bell.ends(2, 0), 2);
    }

    private static void sums() {
        Bagatelle x = told("04b", "123456789", "a1;a3;a5;b5;x9");
        due(16, "score", x.sum(0), 1 + 3 + 7 + 7);
        due(16, "rings", x.sum(1), 2);
        due(16, "lost", x.sum(2), 0);
        due(16, "bad", x.sum(-1), BAD);
        due(16, "bad", x.sum(3), BAD);
        due(17, "late", x.late(), 16);
        due(18, "the least of like ones", x.best(), 2);
        due(18, "none anything", told("", "", "a1").best(), NONE);
        due(18, "no ball", told("04b", "9", "").best(), NONE);
        due(18, "the only one", told("", "9", "a2;a1").best(), 1);
        due(18, "the least that may be", told("", "1", "a2;a1").best(), 1);
        due(16, "score", told("", "01", "a2;a1").sum(0), 1);
        due(17, "late", told("", "", "a2;x1").late(), 2);
        x.wipe(0);
        due(16, "no rings any more", x.sum(1), 0);
        due(19, "bad", x.jam(-1), BAD);
        due(19, "bad", x.jam(2), BAD);
        due(19, "no jam", x.jam(0), 0);
        due(19, "no jam", x.jam(1), 0);
        Bagatelle jams = told("13r", "", "a4;a5;f4;f5");
        due(19, "the least of like ticks", jams.jam(0), 2);
        due(19, "one", jams.jam(1), 1);
        Bagatelle more = told("13r;16r", "", "a4;a5;f4;f5;f7;f8");
        due(19, "the tick with more", more.jam(0), 7);
        due(19, "two", more.jam(1), 2);
    }

    private static void shooting() {
        Bagatelle x = told("", "123456789", "a1;b1");
        due(20, "hardest", x.shoot(0, 0), 9);
        due(20, "how much", x.shoot(0, 1), 10);
        due(20, "nothing is changed", x.ball(0, 1), 1);
        due(20, "nothing is changed", x.sum(0), 2);
        Bagatelle narrow = told("", "123456789", "a9;b9");
        narrow.room(1);
        due(20, "not into the full one", narrow.shoot(1, 0), 8);
        due(20, "how much", narrow.shoot(1, 1), 17);
        Bagatelle like = told("", "05050", "a9");
        due(20, "the least of like ones", like.shoot(0, 0), 2);
        due(20, "how much", like.shoot(0, 1), 5);
        Bagatelle none = told("", "", "a9");
        due(20, "none is more", none.shoot(0, 0), 1);
        due(20, "nothing", none.shoot(0, 1), 0);
        due(20, "bad", x.shoot(2, 0), BAD);
        due(20, "bad", x.shoot(-1, 0), BAD);
        due(20, "bad", x.shoot(0, 2), BAD);
        due(20, "bad", x.shoot(0, -1), BAD);
        x.wipe(1);
        due(20, "anew", x.shoot(0, 1), 0);
    }

    private static void timing() {
        Bagatelle x = told("", "000090000", "a5;b5");
        x.room(1);
        x.event(2, 12, 4);
        due(21, "behind the emptying", x.time(1, 0), 4);
        due(21, "how much", x.time(1, 1), 18);
        due(21, "behind the emptying", x.time(0, 0), 4);
        due(21, "how much", x.time(0, 1), 18);
        due(21, "nothing is changed", x.ball(1, 0), 1);
        Bagatelle late = told("", "9", "x1");
        due(21, "the least of like ones", late.time(0, 0), 0);
        due(21, "how much", late.time(0, 1), 9);
        Bagatelle last = told("", "9", "a1;a1");
        last.room(1);
        last.event(2, 23, 0);
        due(21, "the last tick by which it falls in", last.time(1, 0), 15);
        due(21, "bad", x.time(2, 0), BAD);
        due(21, "bad", x.time(-1, 0), BAD);
        due(21, "bad", x.time(0, 2), BAD);
        due(21, "bad", x.time(0, -1), BAD);
    }

    private static void bending() {
        Bagatelle x = told("74l", "000123000", "a5");
        due(22, "a bell", x.bend(0, 0), 3);
        due(22, "how much", x.bend(0, 1), 4);
        due(22, "nothing is changed", x.pin(0, 2), 0);
        due(22, "nothing is changed", x.sum(0), 1);
        Bagatelle right = told("74b", "000129000", "a5");
        due(22, "right", right.bend(0, 0), 1);
        due(22, "how much", right.bend(0, 1), 9);
        Bagatelle turns = told("74b", "000909000", "a5;b5");
        turns.room(1);
        due(22, "turns", turns.bend(0, 0), 2);
        due(22, "how much", turns.bend(0, 1), 18);
        Bagatelle like = told("74b", "000900000", "a5");
        due(22, "left and turns are alike", like.bend(0, 0), 0);
        Bagatelle knocked = told("74b", "000900000", "a5");
        knocked.event(1, 3, 0);
        due(22, "one that leans is knocked", knocked.bend(0, 0), 1);
        due(22, "no balls", told("74b", "9", "").bend(0, 0), 0);
        due(22, "bad", x.bend(1, 0), BAD);
        due(22, "bad", x.bend(-1, 0), BAD);
        due(22, "bad", x.bend(0, 2), BAD);
        due(22, "bad", x.bend(0, -1), BAD);
    }

    private static void sparesDue(String what, Bagatelle x, int many, int first, int second) {
        due(23, what + ": how many", x.spare(NONE), many);
        due(23, what + ": first", x.spare(0), first);
        due(23, what + ": second", x.spare(1), second);
    }

    private static void sparing() {
        sparesDue("a new object", new Bagatelle(), 0, NONE, NONE);
        Bagatelle x = told("73l;75r", "", "a4;a5;a6");
        x.room(1);
        sparesDue("none is lost", x, 0, NONE, NONE);
        x.event(2, 1, 0);
        x.event(1, 1, 0);
        sparesDue("one", x, 1, 1, NONE);
        x.event(1, 3, 1);
        sparesDue("two", x, 2, 1, 2);
        x.back();
        x.event(1, 2, 0);
        sparesDue("knocked back", x, 0, NONE, NONE);
        x.event(1, 4, 0);
        sparesDue("the least of three", x, 1, 1, NONE);
        Bagatelle never = told("", "", "a1;a1;a1");
        never.event(0, 3, 1);
        sparesDue("in vain", never, NONE, NONE, NONE);
        Bagatelle single = told("73l", "", "a4;a5");
        single.room(1);
        single.event(1, 2, 0);
        sparesDue("the only one", single, 1, 0, NONE);
        single.room(2);
        sparesDue("with more room", single, 0, NONE, NONE);
        due(23, "bad", x.spare(-2), BAD);
        due(23, "bad", x.spare(2), BAD);
        Bagatelle thrice = told("71l;74l;77l", "", "a2;a3;a5;a6;a8;a9");
        thrice.room(1);
        thrice.event(1, 5, 0);
        thrice.event(1, 5, 1);
        sparesDue("two of two", thrice, 2, 0, 1);
        thrice.event(1, 5, 2);
        sparesDue("three would be wanted", thrice, NONE, NONE, NONE);
    }

    private static void seeing() {
        Bagatelle x = told("24l", "", "a5");
        int[][] bad = {{-1, 0, 0, 0}, {24, 0, 0, 0}, {0, -1, 0, 0}, {0, 8, 0, 0}, {0, 0, -1, 0}, {0, 0, 9, 0},
            {0, 0, 0, -1}, {0, 0, 0, 13}};
        for (int[] b : bad) {
            due(24, "bad", x.seen(b[0], b[1], b[2], b[3]), BAD);
        }
        due(26, "no events", x.never(), 0);
        due(27, "nothing seen", x.forces(0), 1022);
        due(28, "nothing seen", x.kind(0), 15);
        due(24, "seen", x.seen(3, 3, 3, 0), 1);
        due(27, "only by 5", x.forces(0), 32 | 16);
        due(28, "left or turns", x.kind(0), 5);
        due(24, "seen more", x.seen(2, 2, 4, 0), 2);
        due(27, "only by 5", x.forces(0), 32);
        due(25, "forget", x.forget(), 2);
        due(25, "forget", x.forget(), 0);
        x.seen(3, 3, 5, 0);
        due(28, "right", x.kind(0), 2);
        x.forget();
        x.seen(3, 3, 4, 0);
        due(28, "bell", x.kind(0), 8);
        x.forget();
        x.seen(3, 3, 3, 12);
        due(28, "neither left nor turns", x.kind(0), 10);
        due(27, "not by 5, 4", x.forces(0), 1022 - 48);
        x.forget();
        x.seen(3, 3, 3, 11);
        due(27, "no such ball", x.forces(0), 0);
        due(28, "no such ball", x.kind(0), 0);
        x.forget();
        Bagatelle later = told("24l", "", "d5");
        later.seen(6, 3, 3, 0);
        due(27, "a tick unlike the row", later.forces(0), 32 | 16);
        due(28, "a tick unlike the row", later.kind(0), 5);
        due(27, "bad", x.forces(1), BAD);
        due(27, "bad", x.forces(-1), BAD);
        due(28, "bad", x.kind(1), BAD);
        due(28, "bad", x.kind(-1), BAD);
        for (int n = 1; n <= 8; n++) {
            due(24, "more", x.seen(23, 7, 8, 12), n);
        }
        due(24, "full", x.seen(0, 0, 0, 0), FULL);
        due(24, "bad ahead of full", x.seen(0, 0, 0, 13), BAD);
        due(38, "seen", x.count(7), 8);
        due(25, "forget", x.forget(), 8);
        Bagatelle y = told("14l", "", "a5");
        y.event(1, 1, 0);
        y.event(0, 2, 0);
        y.event(0, 5, 1);
        due(26, "nothing seen: each", y.never(), 7);
        y.seen(2, 2, 3, 0);
        due(26, "the tilt put it there, knocked or not", y.never(), 5);
        y.seen(5, 5, 4, 0);
        due(26, "and so did the other one", y.never(), 1);
        y.forget();
        y.seen(2, 2, 3, 12);
        due(26, "the tilt never was", y.never(), 2);
        y.seen(2, 2, 5, 0);
        due(26, "and it was knocked", y.never(), 2);
        y.seen(5, 5, 5, 0);
        due(26, "no single one", y.never(), 0);
    }

    private static void asking() {
        Bagatelle x = told("", "", "d5");
        due(29, "as it comes in", x.ask(0), 3);
        x.seen(4, 1, 4, 0);
        due(29, "only one is left", x.ask(0), 0);
        x.seen(4, 1, 3, 0);
        due(29, "none is left", x.ask(0), 0);
        due(29, "bad", x.ask(1), BAD);
        due(29, "bad", x.ask(-1), BAD);
        Bagatelle wait = told("", "", "a5;a5");
        due(29, "of those by which it waits there is one", wait.ask(1), 0);
        Bagatelle last = told("", "", "x5");
        due(29, "the last tick", last.ask(0), 23);
        Bagatelle blocked = told("01l;07r", "", "a2;a1;a8;a9;b5");
        due(29, "those that wait are alike, 1 and 9", blocked.ask(4), 2);
        blocked.seen(2, 0, 8, 12);
        due(29, "9 was not, so 1 waits alone", blocked.ask(4), 1);
        blocked.forget();
        blocked.seen(2, 0, 0, 12);
        due(29, "1 was not, so 9 waits alone", blocked.ask(4), 1);
        Bagatelle other = told("", "", "a1;a2;a3;a4;a5;a6;a7;a8;a9;d3;a1;f4");
        due(29, "the last ball of twelve", other.ask(11), 5);
        due(29, "the first of twelve", other.ask(0), 0);
    }

    private static void chanceDue(String what, Bagatelle x, int c, int ball, long above, long below) {
        due(30, what + ": above", x.chance(c, ball, 0), above);
        due(30, what + ": below", x.chance(c, ball, 1), below);
    }

    private static void chances() {
        Bagatelle x = told("04l", "000900000", "a5;a1");
        chanceDue("sure", x, 5, 0, 1, 1);
        chanceDue("never", x, 5, 1, 0, 1);
        x.event(1, 1, 0);
        chanceDue("not knocked", x, 4, 0, 3, 4);
        chanceDue("not knocked", x, 0, 0, 1, 1);
        chanceDue("knocked", x, 16, 0, 0, 1);
        chanceDue("not knocked", x, 5, 0, 11, 16);
        chanceDue("never", x, 5, 1, 0, 1);
        x.event(1, 1, 0);
        chanceDue("knocked twice or never", x, 4, 0, 5, 8);
        for (int n = 3; n <= 8; n++) {
            x.event(1, 1, 0);
        }
        chanceDue("an even number of eight", x, 8, 0, 1, 2);
        // (1 + (6/16)^8) / 2 = (8^8 + 3^8) / (2 * 8^8)
        chanceDue("an even number of eight", x, 5, 0, (16777216L + 6561L), 33554432L);
        chanceDue("the least that may be brought", told("", "1", "a1"), 3, 0, 1, 1);
        Bagatelle rings = told("04b", "", "a5");
        rings.event(0, 1, 1);
        chanceDue("rings bring, too", rings, 1, 0, 15, 16);
        due(30, "bad", x.chance(-1, 0, 0), LONG_BAD);
        due(30, "bad", x.chance(17, 0, 0), LONG_BAD);
        due(30, "bad", x.chance(0, -1, 0), LONG_BAD);
        due(30, "bad", x.chance(0, 2, 0), LONG_BAD);
        due(30, "bad", x.chance(0, 0, -1), LONG_BAD);
        due(30, "bad", x.chance(0, 0, 2), LONG_BAD);
    }

    private static void sundays() {
        int[] seeds = {0, 1, -1, 7, 12345, Integer.MAX_VALUE, Integer.MIN_VALUE};
        for (int seed : seeds) {
            for (int n = 0; n <= 12; n++) {
                StringBuilder balls = new StringBuilder();
                int now = seed;
                for (int i = 0; i < n; i++) {
                    now = 1103515245 * now + 12345;
                    balls.append(i > 0 ? ";" : "").append((char) ('a' + (now >>> 16) % 24));
                    now = 1103515245 * now + 12345;
                    balls.append((char) ('1' + (now >>> 16) % 9));
                }
                Bagatelle drawn = told("13l;24t;35r;46b;41t", "987654321", balls.toString());
                Bagatelle x = told("13l;24t;35r;46b;41t", "987654321", "a5;a5;a5");
                drawn.room(1);
                x.room(1);
                drawn.event(0, 9, 1);
                x.event(0, 9, 1);
                due(31, "score", x.sundays(seed, n, 0), drawn.sum(0));
                due(31, "lost", x.sundays(seed, n, 1), drawn.sum(2));
                due(31, "nothing is changed", x.count(1), 3);
            }
        }
        Bagatelle x = new Bagatelle();
        due(31, "no balls", x.sundays(3, 0, 0), 0);
        due(31, "bad", x.sundays(0, -1, 0), BAD);
        due(31, "bad", x.sundays(0, 13, 0), BAD);
        due(31, "bad", x.sundays(0, 0, -1), BAD);
        due(31, "bad", x.sundays(0, 0, 2), BAD);
    }

    private static void sheets() {
        Bagatelle x = new Bagatelle();
        due(32, "bad", x.sheet(-1, 0, 0), BAD);
        due(32, "bad", x.sheet(4, 0, 0), BAD);
        due(32, "bad", x.sheet(0, -1, 0), BAD);
        due(32, "bad", x.sheet(0, 3, 0), BAD);
        due(32, "bad", x.sheet(0, 0, 61), BAD);
        due(32, "bad ahead of size", x.sheet(0, 3, -1), BAD);
        due(38, "no finding yet", x.count(8), 0);
        due(32, "size", x.sheet(0, 0, -1), SIZE);
        due(38, "finding", x.count(8), 5);
        due(32, "still lost", x.lose(0), NULL);
        due(32, "most", x.sheet(0, 0, 60), 60);
        due(32, "none", x.sheet(3, 2, 0), 0);
        due(33, "lose", x.lose(0), 60);
        due(33, "lose none", x.lose(3), 0);
        due(33, "null", x.lose(3), NULL);
        due(33, "bad", x.lose(-1), BAD);
        due(33, "bad", x.lose(4), BAD);
        int[] forms = {300, 70000, MANY};
        int[] kept = {44, 4464, MANY};
        for (int form = 0; form < 3; form++) {
            x.sheet(1, form, 3);
            due(35, "0 at first", x.get(1, form, 1), 0);
            due(34, "lay", x.lay(1, form, 2, forms[form]), 1);
            due(35, "the lowest bits", x.get(1, form, 2), kept[form]);
            due(35, "its neighbour", x.get(1, form, 1), 0);
            x.lay(1, form, 0, -1);
            due(35, "below 0", x.get(1, form, 0), -1);
            x.lay(1, form, 0, 32768 + 128);
            due(35, "wraps", x.get(1, form, 0), form == 0 ? -128 : form == 1 ? -32640 : 32896);
            int other = (form + 1) % 3;
            due(34, "cast", x.lay(1, other, 0, 1), CAST);
            due(34, "cast ahead of index", x.lay(1, other, 3, 1), CAST);
            due(38, "finding", x.count(8), 3);
            due(34, "index", x.lay(1, form, 3, 1), INDEX);
            due(34, "index", x.lay(1, form, -1, 1), INDEX);
            due(34, "index", x.lay(1, form, MANY, 1), INDEX);
            due(38, "finding", x.count(8), 2);
            due(35, "cast", x.get(1, other, 5), LEAST);
            due(38, "finding", x.count(8), 3);
            due(35, "index", x.get(1, form, 3), LEAST);
            due(38, "finding", x.count(8), 2);
            due(35, "index", x.get(1, form, LEAST), LEAST);
        }
        x.sheet(1, 2, 3);
        due(32, "a new row", x.get(1, 2, 2), 0);
        due(34, "null", x.lay(0, 0, 0, 0), NULL);
        due(34, "bad", x.lay(4, 0, 0, 0), BAD);
        due(34, "bad", x.lay(-1, 0, 0, 0), BAD);
        due(34, "bad ahead of null", x.lay(0, 3, 0, 0), BAD);
        due(34, "bad ahead of null", x.lay(0, -1, 0, 0), BAD);
        x.get(1, 2, 3);
        due(35, "null", x.get(0, 0, 0), LEAST);
        due(38, "finding", x.count(8), 1);
        x.get(1, 2, 3);
        due(35, "bad", x.get(4, 0, 0), LEAST);
        due(35, "bad", x.get(-1, 0, 0), LEAST);
        due(35, "bad", x.get(0, 3, 0), LEAST);
        due(35, "bad", x.get(0, -1, 0), LEAST);
        due(38, "bad is no finding", x.count(8), 2);
        x.sheet(2, 0, 4);
        x.lay(2, 0, 1, 9);
        due(32, "size", x.sheet(2, 1, -1), SIZE);
        due(32, "it stays as it was", x.get(2, 0, 1), 9);
    }

    private static void itemsDue(String what, Bagatelle x, int s, int... items) {
        for (int i = 0; i < items.length; i++) {
            due(36, what + ", item " + i, x.get(s, 0, i), items[i]);
        }
    }

    private static void copying() {
        Bagatelle x = new Bagatelle();
        lay(x, 0, 0, 1, 2, 3, 4, 5);
        lay(x, 1, 0, 6, 7, 8);
        due(36, "copy", x.copy(0, 3, 1, 0, 2), 1);
        itemsDue("to another", x, 1, 4, 5, 8);
        due(36, "copy", x.copy(0, 0, 0, 1, 4), 1);
        itemsDue("onwards in one", x, 0, 1, 1, 2, 3, 4);
        due(36, "copy", x.copy(0, 1, 0, 0, 4), 1);
        itemsDue("backwards in one", x, 0, 1, 2, 3, 4, 4);
        due(36, "none at the end", x.copy(0, 5, 1, 3, 0), 1);
        int[][] badIndex = {{0, 6, 1, 0, 0}, {0, 0, 1, 4, 0}, {0, -1, 1, 0, 1}, {0, 0, 1, -1, 1}, {0, 0, 1, 0, -1},
            {0, 0, 1, 0, 4}, {1, 0, 0, 3, 3}, {1, 2, 0, 0, 2}, {0, 1, 0, 0, MANY}, {0, MANY, 0, 0, MANY},
            {0, 0, 0, MANY, 1}, {0, LEAST, 0, 0, LEAST}};
        for (int[] b : badIndex) {
            due(36, "index", x.copy(b[0], b[1], b[2], b[3], b[4]), INDEX);
        }
        itemsDue("nothing came of it", x, 0, 1, 2, 3, 4, 4);
        due(38, "finding", x.count(8), 2);
        x.sheet(2, 1, 5);
        due(36, "store", x.copy(0, 0, 2, 0, 1), STORE);
        due(36, "store ahead of index", x.copy(0, 9, 2, 0, 1), STORE);
        due(38, "finding", x.count(8), 4);
        due(36, "null", x.copy(3, 0, 2, 0, 1), NULL);
        due(36, "null ahead of index", x.copy(2, 9, 3, 0, 1), NULL);
        due(36, "bad ahead of null", x.copy(3, 0, 4, 0, 1), BAD);
        due(36, "bad", x.copy(-1, 0, 0, 0, 1), BAD);
        due(36, "bad", x.copy(4, 0, 0, 0, 1), BAD);
        due(36, "bad", x.copy(0, 0, -1, 0, 1), BAD);
    }

    private static void writing() {
        for (int form = 0; form < 3; form++) {
            Bagatelle x = told("", "", "c3;a1");
            x.sheet(0, form, 60);
            x.lay(0, form, 24, 99);
            due(37, "24 at most", x.write(0, 0), 24);
            for (int tick = 0; tick < 24; tick++) {
                due(37, "row", x.get(0, form, tick), tick < 2 ? NONE : Math.min(tick - 2, 8));
            }
            due(37, "the rest stays", x.get(0, form, 24), 99);
            x.sheet(0, form, 3);
            due(37, "as many as there are", x.write(1, 0), 3);
            due(37, "row", x.get(0, form, 2), 2);
        }
        Bagatelle x = told("", "", "a1;a1;a1");
        x.sheet(1, 0, 24);
        x.write(2, 1);
        due(37, "gutter", x.get(1, 0, 23), 9);
        due(37, "null", x.write(0, 0), NULL);
        due(37, "bad ahead of null", x.write(3, 0), BAD);
        due(37, "bad", x.write(-1, 1), BAD);
        due(37, "bad", x.write(0, 4), BAD);
        due(37, "bad", x.write(0, -1), BAD);
        x.sheet(1, 0, 0);
        due(37, "no items", x.write(0, 1), 0);
    }

    private static void counts() {
        Bagatelle x = told("04b;11l", "55", "a5;a1;x2;x3");
        x.room(4);
        x.event(0, 0, 0);
        x.seen(0, 0, 0, 12);
        x.seen(0, 0, 0, 12);
        x.lose(0);
        int[] counts = {2, 4, 7 + 2 + 11, 1, 7, 4, 2, 2, 1};
        for (int what = 0; what < counts.length; what++) {
            due(38, "count " + what, x.count(what), counts[what]);
        }
        due(38, "on the board, first of all calls", told("", "", "a1;x1").count(6), 1);
        due(38, "score, first of all calls", told("", "3", "a1;x1").count(4), 3);
        due(38, "bad", x.count(-1), BAD);
        due(38, "bad", x.count(9), BAD);
    }

    private static void digests() {
        String[][] boards = {
            {"", "", ""},
            {"04t;13l;15r;24b;33t;42r", "123454321", "a5;a5;b4;c6;e1;e9;x5"},
            {"00t;73r;75l", "909090909", TWELVE_BALLS},
            {"44l;14b", "12", "a4;a5;b5;b4"},
            {"73l;75r;44t", "987654321", "a4;a5;a6"}};
        for (String[] b : boards) {
            digestDue("as told", () -> told(b[0], b[1], b[2]));
            digestDue("with events and one seen", () -> withEvents(b));
            Bagatelle x = withEvents(b);
            x.lose(0);
            long before = x.digest();
            x.lay(0, 0, 0, 0);
            due(39, "twice alike", x.digest(), before);
        }
    }

    private static Bagatelle withEvents(String[] board) {
        Bagatelle x = told(board[0], board[1], board[2]);
        x.room(1);
        x.event(0, 3, 1);
        x.event(1, 4, 0);
        x.event(2, 10, 4);
        x.seen(3, 3, 4, 12);
        return x;
    }

    private static void digestOfSpares() {
        digestDue("one had better not be", () -> {
            Bagatelle x = told("73l", "5", "a4;a5");
            x.room(1);
            x.event(1, 2, 0);
            return x;
        });
    }

    private static void digestDue(String what, Supplier<Bagatelle> state) {
        due(39, what, state.get().digest(), Digests.of(Digests.each(state)));
    }
}
