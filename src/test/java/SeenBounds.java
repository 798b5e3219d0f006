import java.util.Set;
import java.util.TreeSet;

/** The bounds that the document names for what was SEEN, for chances and for Sundays: promises 24 to 31. */
final class SeenBounds extends Refused {
    private static final int ALL_FORCES = 1022, ALL_KINDS = 15;

    static void promise24Ticks0To23() {
        bounds("seen", args(0, 0, 0, 0), 0, 0, 23);
    }

    static void promise24Rows0To7() {
        bounds("seen", args(0, 0, 0, 0), 1, 0, 7);
    }

    static void promise24Columns0To8() {
        bounds("seen", args(0, 0, 0, 0), 2, 0, 8);
    }

    static void promise24Balls0To12() {
        bounds("seen", args(0, 0, 0, 0), 3, 0, 12);
        bounds(Bagatelle::new, BAD, BAD, "seen", args(0, 0, 0, 0), 3, 0, 12);
    }

    static void promise24SeveralBad() {
        refused(BAD, "seen", 24, 8, 9, 13);
        refused(BAD, "seen", -1, -1, -1, -1);
    }

    static void promise24EightFindPlace() {
        Bagatelle x = new Bagatelle();
        for (int n = 1; n <= 8; n++) {
            due("how many", x.seen(n, n - 1, n, n), n);
            due("counted", x.count(7), n);
        }
        due("a ninth", x.seen(0, 0, 0, 12), FULL);
        due("counted", x.count(7), 8);
    }

    static void promise24TheSameTwice() {
        Bagatelle x = new Bagatelle();
        due("once", x.seen(3, 3, 3, 3), 1);
        due("twice", x.seen(3, 3, 3, 3), 2);
    }

    static void promise24FullChangesNothing() {
        refusedWhenFull(FULL, "seen", 0, 0, 0, 0);
        refusedWhenFull(FULL, "seen", 23, 7, 8, 12);
    }

    static void promise24BadAheadOfFull() {
        for (int[] bad : new int[][] {{-1, 0, 0, 0}, {24, 0, 0, 0}, {0, -1, 0, 0}, {0, 8, 0, 0}, {0, 0, -1, 0},
            {0, 0, 9, 0}, {0, 0, 0, -1}, {0, 0, 0, 13}}) {
            refusedWhenFull(BAD, "seen", bad);
        }
    }

    /** The eighth counts, as does the first, and none behind it that was refused. */
    static void promise24TheEighthCounts() {
        Bagatelle x = told("", "", "a5");
        for (int n = 1; n <= 7; n++) {
            x.seen(n, n, 0, 12);
        }
        due("not by 1", x.forces(0), ALL_FORCES - 2);
        x.seen(0, 0, 8, 12);
        due("nor by 9", x.forces(0), ALL_FORCES - 2 - 512);
        x.seen(0, 0, 4, 12);
        due("a ninth does not count", x.forces(0), ALL_FORCES - 2 - 512);
    }

    static void promise25NothingSeen() {
        Bagatelle x = new Bagatelle();
        due("none", x.forget(), 0);
        due("still none", x.forget(), 0);
    }

    static void promise25EightForgotten() {
        Bagatelle x = full();
        due("eight", x.forget(), 8);
        due("none is left", x.count(7), 0);
        due("none", x.forget(), 0);
        for (int n = 1; n <= 8; n++) {
            due("all find place anew", x.seen(0, 0, 0, 12), n);
        }
    }

    static void promise25NothingElseIsForgotten() {
        Bagatelle x = plain();
        x.forget();
        int[] counts = {3, 3, 11 + 8 + 8, 2};
        for (int what = 0; what < counts.length; what++) {
            due("count " + what, x.count(what), counts[what]);
        }
        due("a sheet", x.lose(1), 3);
    }

    static void promise25AnswersAnew() {
        Bagatelle x = told("04l", "", "a5");
        x.event(1, 1, 0);
        x.seen(0, 0, 0, 0);
        due("only by 1", x.forces(0), 2);
        due("by no kind", x.kind(0), 0);
        due("by none", x.never(), 0);
        x.forget();
        due("by all", x.forces(0), ALL_FORCES);
        due("by all", x.kind(0), ALL_KINDS);
        due("by all", x.never(), 1);
    }

    static void promise26WithoutEvents() {
        Bagatelle x = told("", "", "a5");
        due("nothing seen", x.never(), 0);
        x.seen(0, 0, 4, 0);
        due("it was so", x.never(), 0);
        x.seen(0, 0, 4, 12);
        due("it was not so", x.never(), 0);
    }

    static void promise26NothingSeen() {
        Bagatelle x = new Bagatelle();
        for (int n = 1; n <= 8; n++) {
            x.event(0, n, 1);
            due("each", x.never(), (1 << n) - 1);
        }
    }

    static void promise26ItAloneHadNotBeen() {
        Bagatelle x = told("", "", "a5");
        x.event(0, 1, 1);
        x.event(0, 2, 1);
        x.seen(2, 2, 6, 0);
        due("both were", x.never(), 0);
        x.forget();
        x.seen(2, 2, 4, 0);
        due("neither was: not one alone", x.never(), 0);
        x.forget();
        x.seen(2, 2, 5, 0);
        due("one of them was", x.never(), 3);
        x.seen(1, 1, 4, 0);
        due("the second one was", x.never(), 1);
    }

    static void promise26TheEighthEvent() {
        Bagatelle x = told("", "", "a1");
        for (int tick = 1; tick <= 8; tick++) {
            x.event(0, tick, 1);
        }
        x.seen(7, 7, 7, 0);
        due("all but the eighth were", x.never(), 128);
        x.forget();
        x.seen(1, 1, 0, 0);
        due("the first one was not", x.never(), 1);
    }

    static void promise26WhatMakesNoDifference() {
        Bagatelle x = told("04l", "", "a5");
        x.event(1, 1, 11);
        x.event(2, 1, 9);
        x.event(1, 1, 0);
        x.seen(1, 1, 5, 0);
        due("no such pin, no such cup", x.never(), 3);
    }

    static void promise27Balls() {
        bounds("forces", args(0), 0, 0, 2);
        bounds(Refused::full, BAD, BAD, "forces", args(0), 0, 0, 11);
        refusedWhenNew(BAD, "forces", 0);
    }

    static void promise27NothingSeen() {
        due("all", told("", "", "a5").forces(0), ALL_FORCES);
        due("all of the twelfth", told("", "", TWELVE_BALLS).forces(11), ALL_FORCES);
    }

    static void promise27Each() {
        for (int hard = 1; hard <= 9; hard++) {
            Bagatelle x = told("", "", "a5");
            x.seen(0, 0, hard - 1, 0);
            due("by " + hard, x.forces(0), 1 << hard);
            x.forget();
            x.seen(0, 0, hard - 1, 12);
            due("not by " + hard, x.forces(0), ALL_FORCES - (1 << hard));
        }
    }

    static void promise27ByNone() {
        Bagatelle x = told("", "", "a5;a6");
        x.seen(0, 0, 0, 0);
        x.seen(0, 0, 8, 0);
        due("at two places", x.forces(0), 0);
        x.forget();
        x.seen(0, 0, 5, 12);
        due("another one is there anyhow", x.forces(0), 0);
        x.forget();
        x.seen(0, 0, 0, 2);
        due("no such ball", x.forces(0), 0);
    }

    static void promise27InPlaceOfItsOwn() {
        Bagatelle x = told("", "", "a5;a5");
        x.seen(0, 0, 4, 1);
        due("the other one comes in unless it is there", x.forces(0), ALL_FORCES - 32);
        due("ball 0 is ahead of it", x.forces(1), 0);
        due("as told", x.ball(0, 1), 5);
    }

    static void promise27TheLastTickAndRow() {
        Bagatelle x = told("", "", "q5");
        x.seen(23, 7, 8, 0);
        due("by 9", x.forces(0), 512);
    }

    static void promise28Pins() {
        bounds("kind", args(0), 0, 0, 2);
        bounds(Refused::full, BAD, BAD, "kind", args(0), 0, 0, 11);
        refusedWhenNew(BAD, "kind", 0);
    }

    static void promise28NothingSeen() {
        due("all", told("04l", "", "").kind(0), ALL_KINDS);
        due("all of the twelfth", told(TWELVE_PINS, "", "a1").kind(11), ALL_KINDS);
    }

    static void promise28Each() {
        int[] want = {5, 8, 2};
        for (int column = 3; column <= 5; column++) {
            Bagatelle x = told("04l", "", "a5");
            x.seen(1, 1, column, 0);
            due("column " + column, x.kind(0), want[column - 3]);
            x.forget();
            x.seen(1, 1, column, 12);
            due("not column " + column, x.kind(0), ALL_KINDS - want[column - 3]);
        }
    }

    static void promise28OneThatTurnsAlone() {
        Bagatelle x = told("04b", "", "a5;b5");
        x.seen(1, 1, 3, 0);
        x.seen(2, 1, 5, 1);
        due("turns", x.kind(0), 4);
        due("as told", x.pin(0, 2), 3);
    }

    static void promise28Knocked() {
        Bagatelle x = told("04l", "", "a5");
        x.event(1, 1, 0);
        x.seen(1, 1, 3, 0);
        due("one that leans to the right, knocked", x.kind(0), 2);
    }

    static void promise28ByNone() {
        Bagatelle x = told("04l", "", "a5");
        x.seen(1, 1, 6, 0);
        due("none", x.kind(0), 0);
    }

    static void promise29Balls() {
        bounds("ask", args(0), 0, 0, 2);
        bounds(Refused::full, BAD, BAD, "ask", args(0), 0, 0, 11);
        refusedWhenNew(BAD, "ask", 0);
    }

    static void promise29TheFirstAndTheLastTick() {
        due("tick 0", told("", "", "a5").ask(0), 0);
        due("tick 23", told("", "", "x5").ask(0), 23);
    }

    static void promise29TheLeastOfLikeOnes() {
        for (int tick = 0; tick < 24; tick++) {
            Bagatelle x = typed(new Bagatelle(), 2, (char) ('a' + tick) + "5");
            due("it comes in", x.ask(0), tick);
        }
    }

    static void promise29OneForceIsLeft() {
        Bagatelle x = told("", "", "d5");
        x.seen(3, 0, 4, 0);
        due("all ticks are alike", x.ask(0), 0);
    }

    static void promise29NoForceIsLeft() {
        Bagatelle x = told("", "", "d5");
        x.seen(2, 0, 4, 0);
        due("no forces", x.forces(0), 0);
        due("all ticks are alike", x.ask(0), 0);
    }

    static void promise29TwoForcesAreLeft() {
        Bagatelle x = told("", "", "d5");
        for (int column = 2; column < 9; column++) {
            x.seen(3, 0, column, 12);
        }
        due("1 and 2", x.forces(0), 6);
        due("as it comes in", x.ask(0), 3);
    }

    /** By 2 and by 3 ball 3 goes the same way; that the pin has turned by 3 alone is told by ball 1, in TICK 3. */
    static void promise29AllBallsCount() {
        due("another one tells", told("02t", "", "b9;c3;b4;b2").ask(3), 3);
        due("the greatest number is of the last ones", told("06t", "", "b9;c7;b8;b2").ask(3), 3);
    }

    static void promise29EachBallOfTwelve() {
        for (int ball = 0; ball < 12; ball++) {
            String balls = TWELVE_ALIKE.substring(0, 3 * ball) + "x5" + TWELVE_ALIKE.substring(3 * ball + 2);
            due("ball " + ball, told("", "", balls).ask(ball), 23);
        }
    }

    static void promise29NeverIn() {
        Bagatelle x = told("", "", "x1;x2;x3;x4;x5;x6;x7;x8;x9;x5");
        due("it never comes in", x.ask(9), 0);
        due("its places are all taken by the others but one", x.ask(0), 23);
    }

    private static void chanceDue(String what, Bagatelle x, int c, int ball, long above, long below) {
        due(what + ": above", x.chance(c, ball, 0), above);
        due(what + ": below", x.chance(c, ball, 1), below);
    }

    static void promise30Sixteenths0To16() {
        bounds(Refused::plain, LONG_BAD, LONG_BAD, "chance", args(0, 0, 0), 0, 0, 16);
    }

    static void promise30Balls() {
        bounds(Refused::plain, LONG_BAD, LONG_BAD, "chance", args(5, 0, 0), 1, 0, 2);
        bounds(Refused::full, LONG_BAD, LONG_BAD, "chance", args(5, 0, 0), 1, 0, 11);
        refusedWhenNew(LONG_BAD, "chance", 0, 0, 0);
    }

    static void promise30What0To1() {
        bounds(Refused::plain, LONG_BAD, LONG_BAD, "chance", args(5, 0, 0), 2, 0, 1);
    }

    static void promise30SeveralBad() {
        refused(LONG_BAD, "chance", 17, 3, 2);
        refused(LONG_BAD, "chance", -1, -1, -1);
    }

    static void promise30TheRefusalIsTheLeastLongAnd2() {
        due("as a number", new Bagatelle().chance(0, 0, 0), -9223372036854775806L);
    }

    static void promise30WithoutEvents() {
        Bagatelle x = told("", "01", "a1;a2");
        for (int c = 0; c <= 16; c++) {
            chanceDue("never", x, c, 0, 0, 1);
            chanceDue("always", x, c, 1, 1, 1);
        }
    }

    static void promise30NoneAndAllSixteenths() {
        Bagatelle x = told("", "01", "a1");
        x.event(0, 1, 1);
        chanceDue("the event is not", x, 0, 0, 0, 1);
        chanceDue("the event is", x, 16, 0, 1, 1);
        x.event(0, 2, 0);
        chanceDue("the second one is, too", x, 16, 0, 0, 1);
    }

    static void promise30InLowestTerms() {
        Bagatelle x = told("", "01", "a1");
        x.event(0, 1, 1);
        int[][] want = {{0, 1}, {1, 16}, {1, 8}, {3, 16}, {1, 4}, {5, 16}, {3, 8}, {7, 16}, {1, 2}, {9, 16}, {5, 8},
            {11, 16}, {3, 4}, {13, 16}, {7, 8}, {15, 16}, {1, 1}};
        for (int c = 0; c <= 16; c++) {
            chanceDue(c + " sixteenths", x, c, 0, want[c][0], want[c][1]);
        }
    }

    private static Bagatelle eightTilts() {
        Bagatelle x = told("", "000000001", "a1");
        for (int tick = 1; tick <= 8; tick++) {
            x.event(0, tick, 1);
        }
        return x;
    }

    static void promise30AllEightEvents() {
        Bagatelle x = eightTilts();
        chanceDue("of 16 to the eighth", x, 1, 0, 1, 4294967296L);
        chanceDue("of 16 to the eighth", x, 15, 0, 2562890625L, 4294967296L);
        chanceDue("of 2 to the eighth", x, 8, 0, 1, 256);
        chanceDue("all", x, 16, 0, 1, 1);
        chanceDue("none", x, 0, 0, 0, 1);
    }

    static void promise30AllButTheChanceOfAll() {
        Bagatelle x = told("", "11111111", "a1");
        for (int tick = 1; tick <= 8; tick++) {
            x.event(0, tick, 1);
        }
        chanceDue("of 16 to the eighth", x, 1, 0, 4294967295L, 4294967296L);
    }

    static void promise30BringsAnything() {
        chanceDue("a cup", told("", "1", "a1"), 5, 0, 1, 1);
        chanceDue("a ring", told("00b", "", "w1"), 5, 0, 1, 1);
        chanceDue("a ring and the gutter", told("00b", "", "a1;b1;c1"), 5, 2, 1, 1);
        chanceDue("the gutter", told("", "1", "a1;b1;c1"), 5, 2, 0, 1);
        chanceDue("not by tick 23", told("", "1", "q1"), 5, 0, 0, 1);
    }

    static void promise30TheTwelfthBall() {
        Bagatelle x = told("", "999999999", TWELVE_BALLS);
        x.room(1);
        x.event(2, 9, 2);
        chanceDue("if the cup is emptied", x, 5, 11, 5, 16);
        chanceDue("if not, too", x, 5, 2, 1, 1);
    }

    static void promise30AnswersAnew() {
        Bagatelle x = told("", "01", "a1");
        x.event(0, 1, 1);
        chanceDue("as told", x, 4, 0, 1, 4);
        x.event(0, 2, 1);
        chanceDue("with one event more", x, 4, 0, 3, 8);
        x.back();
        chanceDue("with one event less", x, 4, 0, 1, 4);
        typed(x, 1, "1");
        chanceDue("with one cup more", x, 4, 0, 1, 4);
        x.event(0, 2, 1);
        chanceDue("with one event more", x, 4, 0, 7, 16);
        x.wipe(1);
        chanceDue("without cups", x, 4, 0, 0, 1);
    }

    static void promise31Balls0To12() {
        bounds("sundays", args(7, 0, 0), 1, 0, 12);
        bounds(Bagatelle::new, BAD, BAD, "sundays", args(7, 0, 0), 1, 0, 12);
    }

    static void promise31What0To1() {
        bounds("sundays", args(7, 9, 0), 2, 0, 1);
    }

    static void promise31AnySeed() {
        bounds("sundays", args(LEAST, 9, 0), 1, 0, 12);
        bounds("sundays", args(MANY, 9, 0), 1, 0, 12);
        for (int seed : new int[] {LEAST, LEAST + 1, -1, 0, 1, MANY - 1, MANY}) {
            dueTrue("seed " + seed, plain().sundays(seed, 12, 0) >= 0);
        }
    }

    static void promise31BothBad() {
        refused(BAD, "sundays", 7, 13, 2);
        refused(BAD, "sundays", 7, -1, -1);
    }

    static void promise31ChangesNothing() {
        refused(plain().sundays(7, 12, 0), "sundays", 7, 12, 0);
        refusedWhenFull(full().sundays(7, 3, 1), "sundays", 7, 3, 1);
    }

    static void promise31NoBalls() {
        Bagatelle x = told("", "999999999", TWELVE_BALLS);
        x.room(1);
        due("those told bring something", x.sum(0), 81);
        due("score", x.sundays(7, 0, 0), 0);
        due("lost", x.sundays(7, 0, 1), 0);
    }

    /** Lots worked out with longs, so that a seed that wraps, or is below 0, is told from one that is not. */
    private static int[] lots(int seed, int n) {
        int[] lots = new int[2 * n];
        long now = seed & 0xFFFFFFFFL;
        for (int i = 0; i < lots.length; i++) {
            now = (1103515245L * now + 12345L) & 0xFFFFFFFFL;
            lots[i] = (int) ((now >> 16) % (i % 2 == 0 ? 24 : 9));
        }
        return lots;
    }

    private static String drawn(int[] lots) {
        StringBuilder balls = new StringBuilder();
        for (int i = 0; i < lots.length; i += 2) {
            balls.append(i == 0 ? "" : ";").append((char) ('a' + lots[i])).append((char) ('1' + lots[i + 1]));
        }
        return balls.toString();
    }

    static void promise31LotsOfAllSeeds() {
        Set<Integer> ticks = new TreeSet<>();
        Set<Integer> forces = new TreeSet<>();
        for (int i = 0; i < 400; i++) {
            int seed = i * 21474833 - 4 * i;
            int[] lots = lots(seed, 1);
            ticks.add(lots[0]);
            forces.add(lots[1]);
            Bagatelle x = told("00b;01b;02l;03t;04b;13r;15b;26b", "123456789", "");
            Bagatelle same = told("00b;01b;02l;03t;04b;13r;15b;26b", "123456789", drawn(lots));
            due("score by seed " + seed, x.sundays(seed, 1, 0), same.sum(0));
        }
        due("all ticks were drawn", ticks.size(), 24);
        due("all forces were drawn", forces.size(), 9);
    }

    static void promise31TwelveBalls() {
        for (int seed : new int[] {7, -7, 0, LEAST, MANY, 1 << 16, 65535}) {
            Bagatelle x = told("04b;43t", "123456789", "a1;a1");
            Bagatelle same = told("04b;43t", "123456789", drawn(lots(seed, 12)));
            x.room(1);
            same.room(1);
            x.event(0, 12, 1);
            same.event(0, 12, 1);
            due("score", x.sundays(seed, 12, 0), same.sum(0));
            due("lost", x.sundays(seed, 12, 1), same.sum(2));
        }
    }

    static void promise31WithAFaultInBalls() {
        Bagatelle x = told("04b", "123456789", "a1;a");
        due("score", x.sundays(7, 9, 0), told("04b", "123456789", "").sundays(7, 9, 0));
        due("no balls are told", x.count(1), 0);
    }
}
