/** The bounds that the document names for plans: promises 20 to 23. */
final class PlanBounds extends Refused {
    private static final int TILT = 0, KNOCK = 1, EMPTY = 2;

    private static void shootDue(String what, Bagatelle x, int ball, int hard, int score) {
        due(what + ": which", x.shoot(ball, 0), hard);
        due(what + ": how much", x.shoot(ball, 1), score);
    }

    private static void timeDue(String what, Bagatelle x, int ball, int tick, int score) {
        due(what + ": which", x.time(ball, 0), tick);
        due(what + ": how much", x.time(ball, 1), score);
    }

    private static void bendDue(String what, Bagatelle x, int pin, int sort, int score) {
        due(what + ": which", x.bend(pin, 0), sort);
        due(what + ": how much", x.bend(pin, 1), score);
    }

    private static void spareDue(String what, Bagatelle x, int many, int first, int second) {
        due(what + ": how many", x.spare(NONE), many);
        due(what + ": the first", x.spare(0), first);
        due(what + ": the second", x.spare(1), second);
    }

    static void promise20Balls() {
        bounds("shoot", args(0, 0), 0, 0, 2);
        bounds(Refused::full, BAD, BAD, "shoot", args(0, 0), 0, 0, 11);
        refusedWhenNew(BAD, "shoot", 0, 0);
    }

    static void promise20What0To1() {
        bounds("shoot", args(0, 0), 1, 0, 1);
    }

    static void promise20BothBad() {
        refused(BAD, "shoot", 3, 2);
        refused(BAD, "shoot", -1, -1);
    }

    static void promise20ChangesNothing() {
        refused(plain().shoot(1, 0), "shoot", 1, 0);
        refusedWhenFull(full().shoot(11, 1), "shoot", 11, 1);
    }

    static void promise20EachForce() {
        for (int hard = 1; hard <= 9; hard++) {
            String cups = "000000000".substring(0, hard - 1) + "7";
            for (int own = 1; own <= 9; own++) {
                shootDue("the only cup of worth", told("", cups, "a" + own), 0, hard, 7);
            }
        }
    }

    static void promise20TheLeastOfLikeOnes() {
        shootDue("none brings anything", told("", "", "a9"), 0, 1, 0);
        shootDue("all bring the same", told("", "333333333", "a9"), 0, 1, 3);
        shootDue("three bring the same", told("", "010101", "a9"), 0, 2, 1);
        shootDue("its own brings the same", told("", "00100000", "a1"), 0, 3, 1);
        shootDue("too late to bring anything", told("", "999999999", "q9"), 0, 1, 0);
    }

    static void promise20TheScoreOfAll() {
        Bagatelle x = told("", "500000004", "a1;b1");
        x.room(1);
        shootDue("beside the other one", x, 1, 9, 9);
        shootDue("it would hold up the other one by 4", told("03r;04b", "", "w4;w5"), 0, 1, 2);
        shootDue("it does not matter", told("00b", "", "w1;w5"), 1, 1, 2);
    }

    static void promise20TheTwelfth() {
        shootDue("the last one", told("", "111111119", TWELVE_BALLS), 11, 9, 8 + 9 + 2 + 9);
        shootDue("the last of those alike", told("", "111111119", TWELVE_ALIKE), 11, 9, 2 + 9);
    }

    static void promise20AnswersAnew() {
        Bagatelle x = told("", "19", "a1");
        shootDue("as told", x, 0, 2, 9);
        typed(x, 1, "99");
        shootDue("with more cups", x, 0, 2, 9);
        x.wipe(1);
        shootDue("without cups", x, 0, 1, 0);
        typed(x, 0, "08b");
        shootDue("with a bell", x, 0, 9, 2);
        x.event(TILT, 1, 0);
        shootDue("with a tilt off it", x, 0, 1, 0);
        x.back();
        shootDue("without it", x, 0, 9, 2);
    }

    static void promise21Balls() {
        bounds("time", args(0, 0), 0, 0, 2);
        bounds(Refused::full, BAD, BAD, "time", args(0, 0), 0, 0, 11);
        refusedWhenNew(BAD, "time", 0, 0);
    }

    static void promise21What0To1() {
        bounds("time", args(0, 0), 1, 0, 1);
    }

    static void promise21BothBad() {
        refused(BAD, "time", 3, 2);
        refused(BAD, "time", -1, -1);
    }

    static void promise21ChangesNothing() {
        refused(plain().time(1, 0), "time", 1, 0);
        refusedWhenFull(full().time(11, 1), "time", 11, 1);
    }

    static void promise21TheLeastOfLikeOnes() {
        timeDue("none brings anything", told("", "", "x1"), 0, 0, 0);
        timeDue("all up to 15 bring the same", told("", "4", "x1"), 0, 0, 4);
        timeDue("its own brings the same", told("", "4", "p1"), 0, 0, 4);
    }

    static void promise21BehindTheEmptying() {
        for (int tick = 10; tick < 24; tick++) {
            Bagatelle x = told("", "9", "a1;a1");
            x.room(1);
            x.event(EMPTY, tick, 0);
            timeDue("emptied in tick " + tick, x, 1, tick - 8, 18);
        }
    }

    /**
     * The other balls ring the bell thrice, the third one in TICK 23. Ball 0 would send ball 3 to the left ahead of TICK
     * 20, or go there itself behind it, and a ring would fail in each case but that it comes in with TICK 23.
     */
    static void promise21TheLastTick() {
        timeDue("in nobody's way", told("04t;03b", "", "a5;u4;u4;u5;c5;v4"), 0, 23, 6);
    }

    static void promise21TheTwelfth() {
        Bagatelle x = told("", "9", TWELVE_ALIKE);
        x.event(EMPTY, 20, 0);
        timeDue("behind the eleven others", x, 11, 12, 27);
    }

    static void promise21AnswersAnew() {
        Bagatelle x = told("", "9", "a1;a1");
        x.room(1);
        timeDue("as told", x, 1, 0, 9);
        x.event(EMPTY, 12, 0);
        timeDue("with an emptying", x, 1, 4, 18);
        x.room(2);
        timeDue("with more room", x, 1, 0, 18);
    }

    static void promise22Pins() {
        bounds("bend", args(0, 0), 0, 0, 2);
        bounds(Refused::full, BAD, BAD, "bend", args(0, 0), 0, 0, 11);
        refusedWhenNew(BAD, "bend", 0, 0);
    }

    static void promise22What0To1() {
        bounds("bend", args(0, 0), 1, 0, 1);
    }

    static void promise22BothBad() {
        refused(BAD, "bend", 3, 2);
        refused(BAD, "bend", -1, -1);
    }

    static void promise22ChangesNothing() {
        refused(plain().bend(1, 0), "bend", 1, 0);
        refusedWhenFull(full().bend(11, 1), "bend", 11, 1);
    }

    static void promise22EachSort() {
        for (char own : "lrtb".toCharArray()) {
            bendDue("left", told("74" + own, "000900000", "a5;b5"), 0, 0, 18);
            bendDue("right", told("74" + own, "000009000", "a5;b5"), 0, 1, 18);
            Bagatelle turns = told("74" + own, "000909000", "a5;b5");
            turns.room(1);
            bendDue("turns", turns, 0, 2, 18);
            bendDue("a bell", told("74" + own, "000090000", "a5;b5"), 0, 3, 22);
        }
    }

    static void promise22TheLeastOfLikeOnes() {
        bendDue("no balls", told("74b", "999999999", ""), 0, 0, 0);
        bendDue("nobody comes there", told("74b", "999999999", "a1"), 0, 0, 9);
        bendDue("left and turns", told("74t", "000900000", "a5"), 0, 0, 9);
        bendDue("right and turns", told("74t", "000009000", "a5;b5;c5"), 0, 1, 18);
        bendDue("right and a bell", told("74b", "000002000", "a5"), 0, 1, 2);
    }

    static void promise22AtTheEdge() {
        bendDue("left, straight down at the edge", told("70b", "9", "a1"), 0, 3, 11);
        bendDue("left, straight down at the edge", told("70r", "9", "a1;b1"), 0, 3, 22);
        bendDue("right, straight down at the edge", told("78b", "000000090", "a9"), 0, 0, 9);
    }

    static void promise22Knocked() {
        Bagatelle x = told("74l", "000900000", "a5");
        x.event(KNOCK, 8, 0);
        bendDue("one that leans to the right, knocked", x, 0, 1, 9);
    }

    static void promise22TheTwelfth() {
        bendDue("the last one", told(TWELVE_PINS, "000900000", "a4"), 11, 1, 9);
    }

    static void promise22AnswersAnew() {
        Bagatelle x = told("74b", "000900000", "a5");
        bendDue("as told", x, 0, 0, 9);
        x.event(KNOCK, 8, 0);
        bendDue("knocked", x, 0, 1, 9);
        x.wipe(2);
        bendDue("without balls", x, 0, 0, 0);
    }

    static void promise23NoneTo1() {
        bounds("spare", args(0), 0, NONE, 1);
        bounds(Bagatelle::new, BAD, BAD, "spare", args(0), 0, NONE, 1);
    }

    static void promise23ChangesNothing() {
        for (int i = NONE; i <= 1; i++) {
            refused(plain().spare(i), "spare", i);
            refusedWhenFull(full().spare(i), "spare", i);
        }
    }

    /** Pins that send each ball its own way, unless they are knocked; then one of two is lost. */
    private static Bagatelle pairs(int... knocked) {
        Bagatelle x = told("71l;74l;77l", "", "a2;a3;a5;a6;a8;a9");
        x.room(1);
        for (int pin : knocked) {
            if (pin == NONE) {
                x.event(EMPTY, 1, 0);
            } else {
                x.event(KNOCK, 7, pin);
            }
        }
        return x;
    }

    static void promise23NoneIsLost() {
        spareDue("no events", pairs(), 0, NONE, NONE);
        spareDue("events that do no harm", pairs(NONE, NONE, 0, 0), 0, NONE, NONE);
        spareDue("no balls", new Bagatelle(), 0, NONE, NONE);
    }

    static void promise23One() {
        spareDue("the only one", pairs(0), 1, 0, NONE);
        spareDue("the last of eight", pairs(NONE, NONE, NONE, NONE, NONE, NONE, NONE, 2), 1, 7, NONE);
        spareDue("the first of eight", pairs(1, NONE, NONE, NONE, NONE, NONE, NONE, NONE), 1, 0, NONE);
        spareDue("the least of three", pairs(NONE, 1, 1, 1), 1, 1, NONE);
    }

    static void promise23OneRatherThanALesserRow() {
        spareDue("not two, the first of which is less", pairs(NONE, NONE, NONE, 0), 1, 3, NONE);
    }

    static void promise23Two() {
        spareDue("the only two", pairs(0, 1), 2, 0, 1);
        spareDue("the last two of eight", pairs(NONE, NONE, NONE, NONE, NONE, NONE, 1, 2), 2, 6, 7);
        spareDue("the first and the last", pairs(2, NONE, NONE, NONE, NONE, NONE, NONE, 0), 2, 0, 7);
    }

    static void promise23TwoInTheLeastRow() {
        spareDue("the first is the least", pairs(NONE, NONE, 1, 1, 1, 0), 2, 2, 5);
        spareDue("the second is the least", pairs(NONE, 0, 1, 1, 1), 2, 1, 2);
        spareDue("each more than the one ahead", pairs(NONE, 1, 0), 2, 1, 2);
    }

    static void promise23ThreeAreTooMany() {
        spareDue("three would be wanted", pairs(0, 1, 2), NONE, NONE, NONE);
        spareDue("two of them are knocked back", pairs(0, 1, 2, 0), 2, 1, 2);
    }

    static void promise23InVain() {
        Bagatelle x = told("", "", "a1;b1;c1");
        spareDue("no events", x, NONE, NONE, NONE);
        for (int n = 1; n <= 8; n++) {
            x.event(TILT, 20, 0);
        }
        spareDue("eight events", x, NONE, NONE, NONE);
    }

    static void promise23FewerThanAheadOfIt() {
        Bagatelle x = pairs(0, 1);
        spareDue("two", x, 2, 0, 1);
        x.back();
        spareDue("one", x, 1, 0, NONE);
        x.back();
        spareDue("none", x, 0, NONE, NONE);
    }

    static void promise23AnswersAnew() {
        Bagatelle x = pairs(0);
        spareDue("knocked", x, 1, 0, NONE);
        x.event(KNOCK, 6, 0);
        spareDue("knocked back", x, 0, NONE, NONE);
        x.back();
        spareDue("knocked", x, 1, 0, NONE);
        x.room(2);
        spareDue("with more room", x, 0, NONE, NONE);
        x.room(1);
        x.wipe(0);
        spareDue("without pins", x, 0, NONE, NONE);
        x.wipe(2);
        typed(x, 2, "a1;b1");
        spareDue("with other balls", x, NONE, NONE, NONE);
    }
}
