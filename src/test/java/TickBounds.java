/** The bounds that the document names for the ticks, and for what comes of them: promises 13 to 19. */
final class TickBounds extends Refused {
    /** The place of a ball behind ticks from one on: rows, each with its column. */
    private static void pathDue(Bagatelle x, int ball, int tick, int[]... path) {
        for (int i = 0; i < path.length; i++) {
            due("row of ball " + ball + " behind tick " + (tick + i), x.at(tick + i, ball, 0), path[i][0]);
            due("column of ball " + ball + " behind tick " + (tick + i), x.at(tick + i, ball, 1), path[i][1]);
        }
    }

    private static int[] place(int row, int column) {
        return new int[] {row, column};
    }

    static void promise13Ticks0To23() {
        bounds("at", args(0, 0, 0), 0, 0, 23);
    }

    static void promise13Balls() {
        bounds("at", args(23, 0, 0), 1, 0, 2);
        bounds(Refused::full, BAD, BAD, "at", args(0, 0, 0), 1, 0, 11);
        refusedWhenNew(BAD, "at", 0, 0, 0);
    }

    static void promise13What0To1() {
        bounds("at", args(0, 0, 0), 2, 0, 1);
    }

    static void promise13SeveralBad() {
        refused(BAD, "at", 24, 3, 2);
        refused(BAD, "at", -1, -1, -1);
    }

    static void promise13FromNotInToTheCup() {
        Bagatelle x = told("", "", "b9");
        pathDue(x, 0, 0, place(NONE, NONE), place(0, 8), place(1, 8), place(2, 8), place(3, 8), place(4, 8), place(5, 8),
            place(6, 8), place(7, 8), place(8, 8), place(8, 8));
        pathDue(x, 0, 23, place(8, 8));
    }

    static void promise13TheFirstAndTheLastColumn() {
        for (int hard = 1; hard <= 9; hard++) {
            Bagatelle x = typed(new Bagatelle(), 2, "a" + hard);
            pathDue(x, 0, 0, place(0, hard - 1));
            pathDue(x, 0, 23, place(8, hard - 1));
        }
    }

    static void promise13TheFirstAndTheLastTick() {
        pathDue(told("", "", "a1"), 0, 0, place(0, 0), place(1, 0));
        pathDue(told("", "", "x1"), 0, 22, place(NONE, NONE), place(0, 0));
        pathDue(told("", "", "p1"), 0, 22, place(7, 0), place(8, 0));
        pathDue(told("", "", "q1"), 0, 22, place(6, 0), place(7, 0));
    }

    static void promise13InTheGutter() {
        Bagatelle x = told("", "", "a1;b1;c1");
        pathDue(x, 2, 9, place(7, 0), place(9, 0), place(9, 0));
        pathDue(x, 2, 23, place(9, 0));
    }

    static void promise13WhereItFellIntoTheGutter() {
        Bagatelle x = told("75l;73r", "", "a5;b5;c6;d4");
        pathDue(x, 2, 9, place(7, 5), place(9, 4));
        pathDue(x, 3, 10, place(7, 3), place(9, 4));
        pathDue(x, 3, 23, place(9, 4));
    }

    static void promise13OneOfAnEmptiedCup() {
        Bagatelle x = told("", "", "a7");
        x.event(2, 9, 6);
        pathDue(x, 0, 8, place(8, 6), place(8, 6));
        pathDue(x, 0, 23, place(8, 6));
    }

    static void promise13NeverIn() {
        Bagatelle x = told("", "", "x1;x1");
        pathDue(x, 1, 0, place(NONE, NONE));
        pathDue(x, 1, 23, place(NONE, NONE));
    }

    static void promise13StraightDownWithoutAPin() {
        Bagatelle x = told("03r;05l;13r;15l;74l", "", "a5");
        pathDue(x, 0, 0, place(0, 4), place(1, 4), place(2, 4));
        pathDue(x, 0, 7, place(7, 4), place(8, 3));
    }

    static void promise13LeaningFromEachColumn() {
        for (int column = 0; column < 9; column++) {
            int hard = column + 1;
            pathDue(told("0" + column + "l", "", "a" + hard), 0, 1, place(1, Math.max(0, column - 1)));
            pathDue(told("0" + column + "r", "", "a" + hard), 0, 1, place(1, Math.min(8, column + 1)));
        }
    }

    static void promise13LeaningFromEachRow() {
        for (int row = 0; row < 8; row++) {
            pathDue(told(row + "4l", "", "a5"), 0, row, place(row, 4), place(row + 1, 3));
            pathDue(told(row + "4r", "", "a5"), 0, row, place(row, 4), place(row + 1, 5));
            pathDue(told(row + "4b", "", "a5"), 0, row, place(row, 4), place(row + 1, 4));
        }
    }

    static void promise13BeyondTheEdgeAboveTheCups() {
        pathDue(told("70l", "", "a1"), 0, 7, place(7, 0), place(8, 0));
        pathDue(told("78r", "", "a9"), 0, 7, place(7, 8), place(8, 8));
        pathDue(told("71l", "", "a2"), 0, 7, place(7, 1), place(8, 0));
        pathDue(told("77r", "", "a8"), 0, 7, place(7, 7), place(8, 8));
    }

    static void promise13OneThatTurns() {
        Bagatelle x = told("04t", "", "a5;b5;c5;d5;e5");
        int[] columns = {3, 5, 3, 5, 3};
        for (int ball = 0; ball < 5; ball++) {
            pathDue(x, ball, ball + 1, place(1, columns[ball]));
        }
    }

    static void promise13OneThatTurnsAtTheEdge() {
        Bagatelle left = told("00t", "", "a1;b1;c1;d1");
        Bagatelle right = told("08t", "", "a9;b9;c9;d9");
        for (int ball = 0; ball < 4; ball++) {
            pathDue(left, ball, ball + 1, place(1, ball % 2 == 0 ? 0 : 1));
            pathDue(right, ball, ball + 1, place(1, ball % 2 == 0 ? 7 : 8));
        }
    }

    static void promise13OneThatTurnsAboveTheCups() {
        Bagatelle x = told("74t", "", "a5;b5;c5");
        pathDue(x, 0, 8, place(8, 3));
        pathDue(x, 1, 9, place(8, 5));
        pathDue(x, 2, 10, place(8, 3));
    }

    static void promise13HeldItStays() {
        Bagatelle x = told("13r", "", "a4;a5");
        pathDue(x, 0, 1, place(1, 3), place(2, 4), place(3, 4));
        pathDue(x, 1, 1, place(1, 4), place(1, 4), place(2, 4));
    }

    static void promise13HeldNoPinTurns() {
        Bagatelle x = told("13r;15t", "", "a4;a6;b6");
        pathDue(x, 1, 1, place(1, 5), place(1, 5), place(2, 4));
        pathDue(x, 2, 1, place(0, 5), place(0, 5), place(1, 5), place(2, 6));
    }

    static void promise13HeldAtTheEdgeNoPinTurns() {
        Bagatelle x = told("11l;10t", "", "a2;a1;b1");
        pathDue(x, 0, 1, place(1, 1), place(2, 0));
        pathDue(x, 1, 1, place(1, 0), place(1, 0), place(2, 0));
        pathDue(x, 2, 1, place(0, 0), place(0, 0), place(1, 0), place(2, 1));
    }

    static void promise13TheLowestFirst() {
        Bagatelle x = told("", "", "c5;b5;a5");
        pathDue(x, 0, 2, place(0, 4), place(1, 4));
        pathDue(x, 1, 2, place(1, 4), place(2, 4));
        pathDue(x, 2, 2, place(2, 4), place(3, 4));
    }

    static void promise13OfLikeRowsByNumbers() {
        pathDue(told("03r;05l", "", "a4;a6"), 0, 1, place(1, 4));
        pathDue(told("03r;05l", "", "a4;a6"), 1, 1, place(0, 5), place(1, 4));
        pathDue(told("03r;05l", "", "a6;a4"), 0, 1, place(1, 4));
        pathDue(told("03r;05l", "", "a6;a4"), 1, 1, place(0, 3), place(1, 4));
        pathDue(told("63r;65l", "", "a6;a4"), 1, 7, place(6, 3), place(7, 4), place(8, 4));
    }

    static void promise13TwoThatCross() {
        Bagatelle x = told("04l;03r", "", "a4;a5");
        pathDue(x, 0, 1, place(1, 4));
        pathDue(x, 1, 1, place(1, 3));
    }

    static void promise13ComingInByNumbers() {
        Bagatelle x = told("", "", "a5;a5;b5");
        pathDue(x, 0, 0, place(0, 4));
        pathDue(x, 1, 0, place(NONE, NONE), place(0, 4));
        pathDue(x, 2, 0, place(NONE, NONE), place(NONE, NONE), place(0, 4));
        Bagatelle later = told("", "", "b5;a5;a5");
        pathDue(later, 1, 0, place(0, 4));
        pathDue(later, 0, 0, place(NONE, NONE), place(0, 4));
        pathDue(later, 2, 0, place(NONE, NONE), place(NONE, NONE), place(0, 4));
    }

    static void promise13ComingInWhereOneIsHeld() {
        Bagatelle x = told("03r", "", "a4;a5;b5;b4");
        pathDue(x, 1, 0, place(0, 4), place(0, 4), place(1, 4));
        pathDue(x, 2, 0, place(NONE, NONE), place(NONE, NONE), place(0, 4));
        pathDue(x, 3, 0, place(NONE, NONE), place(0, 3));
    }

    static void promise13ComingInWhereOneWasTilted() {
        Bagatelle x = told("", "", "a4;a5;b5");
        x.event(0, 1, 1);
        pathDue(x, 2, 1, place(0, 4));
    }

    static void promise14Ticks0To23() {
        bounds("sees", args(0, 0, 0), 0, 0, 23);
    }

    static void promise14Rows0To7() {
        bounds("sees", args(9, 0, 4), 1, 0, 7);
    }

    static void promise14Columns0To8() {
        bounds("sees", args(9, 0, 0), 2, 0, 8);
    }

    static void promise14SeveralBad() {
        refused(BAD, "sees", 24, 8, 9);
        refused(BAD, "sees", -1, -1, -1);
        refusedWhenNew(BAD, "sees", 0, 8, 0);
    }

    static void promise14TheCorners() {
        Bagatelle x = told("", "", "a1;a9");
        due("first row, first column", x.sees(0, 0, 0), 0);
        due("first row, last column", x.sees(0, 0, 8), 1);
        due("last row, first column", x.sees(7, 7, 0), 0);
        due("last row, last column", x.sees(7, 7, 8), 1);
        due("nobody behind it", x.sees(8, 7, 0), NONE);
        due("nobody ahead of it", x.sees(6, 7, 0), NONE);
    }

    static void promise14NobodyAndEverybody() {
        Bagatelle x = told("", "", TWELVE_BALLS);
        for (int column = 0; column < 9; column++) {
            due("row 1", x.sees(1, 1, column), column);
            due("row 0", x.sees(1, 0, column), column < 3 ? 9 + column : NONE);
            due("row 2", x.sees(1, 2, column), NONE);
        }
    }

    static void promise14ThoseInCupsAreNotSeen() {
        Bagatelle x = told("", "", "a1");
        for (int row = 0; row < 8; row++) {
            for (int column = 0; column < 9; column++) {
                due("behind tick 23", x.sees(23, row, column), NONE);
            }
        }
    }

    static void promise15Balls() {
        bounds("ends", args(0, 0), 0, 0, 2);
        bounds(Refused::full, BAD, BAD, "ends", args(0, 0), 0, 0, 11);
        refusedWhenNew(BAD, "ends", 0, 0);
    }

    static void promise15What0To2() {
        bounds("ends", args(0, 0), 1, 0, 2);
    }

    static void promise15BothBad() {
        refused(BAD, "ends", 3, 3);
        refused(BAD, "ends", -1, -1);
    }

    private static void endsDue(Bagatelle x, int ball, int brings, int tick, int held) {
        due("brings, ball " + ball, x.ends(ball, 0), brings);
        due("tick, ball " + ball, x.ends(ball, 1), tick);
        due("held, ball " + ball, x.ends(ball, 2), held);
    }

    static void promise15NotByTick23() {
        Bagatelle x = told("", "9", "p1;q1;x1;x1");
        endsDue(x, 0, 9, 23, 0);
        endsDue(x, 1, 0, NONE, 0);
        endsDue(x, 2, 0, NONE, 0);
        endsDue(x, 3, 0, NONE, 0);
    }

    static void promise15TheFirstTickThatMayBe() {
        endsDue(told("", "3", "a1"), 0, 3, 8, 0);
    }

    static void promise15IntoTheGutter() {
        Bagatelle x = told("40b", "3", "a1;b1;c1");
        endsDue(x, 1, 5, 9, 0);
        endsDue(x, 2, 2, 10, 0);
    }

    static void promise15RingsWithoutACup() {
        endsDue(told("04b", "123456789", "w5"), 0, 2, NONE, 0);
        endsDue(told("04b", "123456789", "x5"), 0, 0, NONE, 0);
    }

    static void promise15EachRingBrings2() {
        endsDue(told("04b;14b;24b;34b;44b;54b;64b;74b", "000090000", "a5"), 0, 25, 8, 0);
    }

    static void promise15HeldNoneRings() {
        Bagatelle x = told("13r;14b", "", "a4;a5");
        endsDue(x, 0, 0, 8, 0);
        endsDue(x, 1, 2, 9, 1);
        due("one rings", x.sum(1), 1);
    }

    static void promise15HeldInTheLastTick() {
        Bagatelle x = told("03r", "", "w4;w5");
        endsDue(x, 0, 0, NONE, 0);
        endsDue(x, 1, 0, NONE, 1);
    }

    static void promise15WaitingIsNotBeingHeld() {
        Bagatelle x = told("", "", "a1;a1;a1");
        endsDue(x, 1, 0, 9, 0);
        endsDue(x, 2, 0, 10, 0);
    }

    static void promise15NoneIsHeldAboveTheCups() {
        Bagatelle x = told("73r;75l", "000010000", "a4;a5;a6");
        endsDue(x, 0, 1, 8, 0);
        endsDue(x, 1, 1, 8, 0);
        endsDue(x, 2, 0, 8, 0);
    }

    static void promise15HeldAboveTheLowestRow() {
        Bagatelle x = told("63r;65l", "", "a4;a5;a6");
        endsDue(x, 0, 0, 8, 0);
        endsDue(x, 1, 0, 9, 1);
        endsDue(x, 2, 0, 10, 2);
    }

    static void promise16What0To2() {
        bounds("sum", args(0), 0, 0, 2);
        bounds(Bagatelle::new, BAD, BAD, "sum", args(0), 0, 0, 2);
    }

    private static void sumsDue(Bagatelle x, int score, int rings, int lost) {
        due("score", x.sum(0), score);
        due("rings", x.sum(1), rings);
        due("lost", x.sum(2), lost);
    }

    static void promise16WithoutBalls() {
        sumsDue(told("04b", "999999999", ""), 0, 0, 0);
    }

    static void promise16TwelveBalls() {
        Bagatelle x = told("00b", "999999999", TWELVE_ALIKE);
        sumsDue(x, 2 * 12 + 2 * 9, 12, 10);
        x.room(9);
        sumsDue(x, 2 * 12 + 9 * 9, 12, 3);
    }

    static void promise16EachMayBeLost() {
        for (int ball = 0; ball < 12; ball++) {
            Bagatelle x = told("", "", TWELVE_ALIKE.substring(0, 3 * ball) + "o1" + TWELVE_ALIKE.substring(3 * ball + 2));
            x.room(9);
            x.event(2, 20, 0);
            sumsDue(x, 0, 0, 2);
            x.back();
            sumsDue(x, 0, 0, 3);
            due("ball " + ball, x.at(23, ball, 0), 9);
        }
    }

    static void promise16TheLastTick() {
        sumsDue(told("00b", "9", "p1;q1;w1;x1"), 9 + 3 * 2, 3, 0);
    }

    static void promise17NoneIsLate() {
        due("no balls", new Bagatelle().late(), 0);
        due("in cups and in the gutter", told("", "", "a1;b1;c1").late(), 0);
    }

    static void promise17AllAreLate() {
        due("all", told("", "", "q1;q2;q3;q4;q5;q6;q7;q8;q9;x1;x2;x3").late(), 4095);
    }

    static void promise17ByTick23() {
        due("falls in with tick 23", told("", "", "p1;p2").late(), 0);
        due("would fall in with tick 24", told("", "", "q1;p2").late(), 1);
        due("the twelfth", told("", "", "a1;a2;a3;a4;a5;a6;a7;a8;a9;b1;b2;q3").late(), 2048);
    }

    static void promise17ThoseThatWait() {
        due("waits still", told("", "", "a2;x1;x1").late(), 6);
    }

    static void promise17ThoseThatWereInACup() {
        Bagatelle x = told("", "", "a1;q1");
        x.event(2, 20, 0);
        due("emptied", x.late(), 2);
    }

    static void promise17IntoTheGutterWithTheLastTick() {
        Bagatelle x = told("", "", "a1;p1;q1");
        x.room(1);
        due("late", x.late(), 4);
        due("lost", x.sum(2), 1);
    }

    static void promise18NoneAnything() {
        due("no balls", told("04b", "9", "").best(), NONE);
        due("all worth 0", told("", "000000000", "a1;a2").best(), NONE);
        due("not in by tick 23", told("", "999999999", "q1;q2").best(), NONE);
    }

    static void promise18TheLeastThatIsAnything() {
        due("1", told("", "01", "a1;a2").best(), 1);
        due("a ring", told("04b", "", "a1;w5").best(), 1);
    }

    static void promise18TheLeastOfLikeOnes() {
        due("all alike", told("", "555", "a3;a2;a1").best(), 0);
        due("two alike", told("", "455", "a1;a3;a2").best(), 1);
        due("a cup and a ring", told("04b", "2", "a5;a1").best(), 0);
    }

    static void promise18TheTwelfth() {
        due("the last one", told("", "111111119", "a1;a2;a3;a4;a5;a6;a7;a8;b1;b2;b3;a9").best(), 11);
    }

    static void promise19What0To1() {
        bounds("jam", args(0), 0, 0, 1);
        bounds(Bagatelle::new, BAD, BAD, "jam", args(0), 0, 0, 1);
    }

    private static void jamDue(Bagatelle x, int tick, int many) {
        due("tick", x.jam(0), tick);
        due("how many", x.jam(1), many);
    }

    static void promise19NoneIsHeld() {
        jamDue(new Bagatelle(), 0, 0);
        jamDue(told("", "", "a1;a1;a2"), 0, 0);
    }

    static void promise19TheLeastOfLikeTicks() {
        jamDue(told("13r", "", "a4;a5;f4;f5"), 2, 1);
        jamDue(told("13r", "", "f4;f5;a4;a5"), 2, 1);
    }

    static void promise19MostAreHeld() {
        jamDue(told("13r;16r", "", "a4;a5;f4;f5;f7;f8"), 7, 2);
    }

    static void promise19TheFirstAndTheLastTick() {
        jamDue(told("03r", "", "a4;a5"), 1, 1);
        jamDue(told("03r", "", "w4;w5"), 23, 1);
        jamDue(told("03r", "", "x4;x5"), 0, 0);
    }
}
