/** The bounds that the document names for EVENTS, and for what they do: promises 10 to 12. */
final class EventBounds extends Refused {
    private static final int TILT = 0, KNOCK = 1, EMPTY = 2;

    private static Bagatelle with(Bagatelle x, int... events) {
        for (int i = 0; i < events.length; i += 3) {
            x.event(events[i], events[i + 1], events[i + 2]);
        }
        return x;
    }

    private static void columnsDue(String what, Bagatelle x, int tick, int... columns) {
        for (int ball = 0; ball < columns.length; ball++) {
            due(what + ", column of ball " + ball, x.at(tick, ball, 1), columns[ball]);
        }
    }

    static void promise10Kinds0To2() {
        bounds("event", args(0, 0, 0), 0, 0, 2);
    }

    static void promise10Ticks0To23() {
        for (int kind = 0; kind < 3; kind++) {
            bounds("event", args(kind, 0, 0), 1, 0, 23);
        }
    }

    static void promise10Numbers0To11() {
        for (int kind = 0; kind < 3; kind++) {
            bounds("event", args(kind, 0, 0), 2, 0, 11);
        }
    }

    static void promise10SeveralBad() {
        refused(BAD, "event", 3, 24, 12);
        refused(BAD, "event", -1, -1, -1);
    }

    static void promise10EightFindPlace() {
        Bagatelle x = new Bagatelle();
        for (int n = 1; n <= 8; n++) {
            due("how many", x.event(n % 3, 3 * n - 1, n), n);
            due("counted", x.count(3), n);
        }
        due("a ninth", x.event(0, 0, 0), FULL);
        due("counted", x.count(3), 8);
    }

    static void promise10FullChangesNothing() {
        refusedWhenFull(FULL, "event", 0, 0, 0);
        refusedWhenFull(FULL, "event", 1, 0, 0);
        refusedWhenFull(FULL, "event", 2, 23, 11);
    }

    static void promise10BadAheadOfFull() {
        for (int[] bad : new int[][] {{-1, 0, 0}, {3, 0, 0}, {0, -1, 0}, {0, 24, 0}, {0, 0, -1}, {0, 0, 12}}) {
            refusedWhenFull(BAD, "event", bad);
        }
    }

    static void promise10AnswersAnew() {
        Bagatelle x = told("04l", "123456789", "a5;a5;a5");
        x.digest();
        with(x, KNOCK, 2, 0);
        due("digest", x.digest(), with(told("04l", "123456789", "a5;a5;a5"), KNOCK, 2, 0).digest());
    }

    static void promise10OddTiltsToTheRight() {
        for (int number = 0; number < 12; number++) {
            Bagatelle x = with(told("", "", "a5"), TILT, 1, number);
            due("number " + number, x.at(1, 0, 1), number % 2 == 1 ? 5 : 3);
            due("and it falls", x.at(1, 0, 0), 1);
        }
    }

    static void promise10ATiltInTheFirstTick() {
        columnsDue("not in yet", with(told("", "", "a5"), TILT, 0, 1), 0, 4);
    }

    static void promise10ATiltInTheLastTick() {
        columnsDue("one is on the board", with(told("", "", "w5;x7"), TILT, 23, 1), 23, 5, 6);
        columnsDue("not a tick early", with(told("", "", "w5"), TILT, 23, 1), 22, 4);
    }

    static void promise10ATiltAtTheEdge() {
        Bagatelle right = with(told("", "", "a9"), TILT, 1, 1);
        columnsDue("right edge", right, 1, 8);
        due("it falls all the same", right.at(1, 0, 0), 1);
        Bagatelle left = with(told("", "", "a1"), TILT, 1, 0);
        columnsDue("left edge", left, 1, 0);
        due("it falls all the same", left.at(1, 0, 0), 1);
    }

    static void promise10ATiltToTheEdge() {
        columnsDue("right", with(told("", "", "a8"), TILT, 1, 1), 1, 8);
        columnsDue("left", with(told("", "", "a2"), TILT, 1, 0), 1, 0);
    }

    static void promise10ATiltAwayFromTheEdge() {
        columnsDue("right", with(told("", "", "a1"), TILT, 1, 1), 1, 1);
        columnsDue("left", with(told("", "", "a9"), TILT, 1, 0), 1, 7);
    }

    static void promise10OneBehindAnother() {
        columnsDue("right", with(told("", "", "a4;a5"), TILT, 1, 1), 1, 4, 5);
        columnsDue("right", with(told("", "", "a5;a4"), TILT, 1, 1), 1, 5, 4);
        columnsDue("left", with(told("", "", "a4;a5"), TILT, 1, 0), 1, 2, 3);
        columnsDue("left", with(told("", "", "a5;a4"), TILT, 1, 0), 1, 3, 2);
    }

    static void promise10OneBehindAnotherAtTheEdge() {
        columnsDue("right", with(told("", "", "a8;a9"), TILT, 1, 1), 1, 7, 8);
        columnsDue("right", with(told("", "", "a9;a8;a7"), TILT, 1, 1), 1, 8, 7, 6);
        columnsDue("left", with(told("", "", "a2;a1"), TILT, 1, 0), 1, 1, 0);
        columnsDue("left", with(told("", "", "a1;a2;a3"), TILT, 1, 0), 1, 0, 1, 2);
    }

    static void promise10AGapAheadOfTheEdge() {
        columnsDue("right", with(told("", "", "a9;a7;a6"), TILT, 1, 1), 1, 8, 7, 6);
        columnsDue("left", with(told("", "", "a1;a3;a4"), TILT, 1, 0), 1, 0, 1, 2);
    }

    static void promise10AWholeRow() {
        String nine = "a1;a2;a3;a4;a5;a6;a7;a8;a9";
        columnsDue("right", with(told("", "", nine), TILT, 1, 1), 1, 0, 1, 2, 3, 4, 5, 6, 7, 8);
        columnsDue("left", with(told("", "", nine), TILT, 1, 0), 1, 0, 1, 2, 3, 4, 5, 6, 7, 8);
        columnsDue("right", with(told("", "", nine.substring(0, 23)), TILT, 1, 1), 1, 1, 2, 3, 4, 5, 6, 7, 8);
        columnsDue("left", with(told("", "", nine.substring(3)), TILT, 1, 0), 1, 0, 1, 2, 3, 4, 5, 6, 7);
    }

    static void promise10RowsDoNotHinderEachOther() {
        columnsDue("right", with(told("", "", "a9;b8;c8"), TILT, 3, 1), 3, 8, 8, 8);
        columnsDue("left", with(told("", "", "a1;b2;c2"), TILT, 3, 0), 3, 0, 0, 0);
    }

    static void promise10ATiltInTheLowestRow() {
        Bagatelle x = with(told("", "123456789", "a5"), TILT, 8, 1);
        columnsDue("right", x, 8, 5);
        due("it is in the next cup", x.sum(0), 6);
    }

    static void promise10ATiltLeavesThoseInCups() {
        Bagatelle x = with(told("", "123456789", "a5;b5;c5"), TILT, 11, 1, TILT, 12, 0);
        for (int tick = 11; tick < 13; tick++) {
            columnsDue("two in a cup, one in the gutter", x, tick, 4, 4, 4);
        }
    }

    static void promise10ATiltLeavesThoseThatWait() {
        Bagatelle x = with(told("", "", "a5;a5;d5"), TILT, 1, 1);
        columnsDue("not in", x, 1, 5, 4, NONE);
        columnsDue("in where it was shot", x, 3, 5, 4, 4);
    }

    static void promise10TwoTiltsInATick() {
        columnsDue("two to the right", with(told("", "", "a5"), TILT, 1, 1, TILT, 1, 3), 1, 6);
        columnsDue("to and fro", with(told("", "", "a5"), TILT, 1, 1, TILT, 1, 0), 1, 4);
    }

    static void promise10AsTold() {
        columnsDue("right at the edge, then left", with(told("", "", "a9"), TILT, 1, 1, TILT, 1, 0), 1, 7);
        columnsDue("left, then right", with(told("", "", "a9"), TILT, 1, 0, TILT, 1, 1), 1, 8);
        columnsDue("left at the edge, then right", with(told("", "", "a1"), TILT, 1, 0, TILT, 1, 1), 1, 1);
        columnsDue("right, then left", with(told("", "", "a1"), TILT, 1, 1, TILT, 1, 0), 1, 0);
    }

    static void promise10EachInItsTick() {
        Bagatelle x = with(told("", "", "a5"), TILT, 5, 1, TILT, 3, 0);
        int[] columns = {4, 4, 4, 3, 3, 4, 4};
        for (int tick = 0; tick < columns.length; tick++) {
            columnsDue("tick " + tick, x, tick, columns[tick]);
        }
    }

    static void promise10AheadOfTheFall() {
        columnsDue("onto a pin", with(told("14l", "", "a4"), TILT, 2, 1), 2, 3);
        columnsDue("off a pin", with(told("14l", "", "a5"), TILT, 2, 1), 2, 5);
        columnsDue("knocked in its tick", with(told("14l", "", "a5"), KNOCK, 2, 0), 2, 5);
        columnsDue("knocked a tick later", with(told("14l", "", "a5"), KNOCK, 3, 0), 2, 3);
    }

    static void promise10KnockedInTheFirstTick() {
        columnsDue("left", with(told("04l", "", "a5"), KNOCK, 0, 0), 1, 5);
        columnsDue("right", with(told("04r", "", "a5"), KNOCK, 0, 0), 1, 3);
    }

    static void promise10KnockedInTheLastTick() {
        columnsDue("left", with(told("04l", "", "w5"), KNOCK, 23, 0), 23, 5);
        columnsDue("right", with(told("04r", "", "w5"), KNOCK, 23, 0), 23, 3);
        columnsDue("turns", with(told("04t", "", "w5"), KNOCK, 23, 0), 23, 5);
    }

    static void promise10KnockedFromThenOn() {
        Bagatelle x = with(told("04l", "", "a5;b5;c5;d5"), KNOCK, 2, 0, KNOCK, 4, 0);
        int[] columns = {3, 5, 5, 3};
        for (int ball = 0; ball < 4; ball++) {
            due("ball " + ball, x.at(ball + 1, ball, 1), columns[ball]);
        }
    }

    static void promise10KnockedTwiceInATick() {
        columnsDue("left", with(told("04l", "", "a5"), KNOCK, 1, 0, KNOCK, 1, 0), 1, 3);
        columnsDue("turns", with(told("04t", "", "a5"), KNOCK, 1, 0, KNOCK, 1, 0), 1, 3);
    }

    static void promise10OneThatTurnsIsKnocked() {
        Bagatelle x = with(told("04t", "", "a5;b5;c5;d5"), KNOCK, 2, 0);
        int[] columns = {3, 3, 5, 3};
        for (int ball = 0; ball < 4; ball++) {
            due("ball " + ball, x.at(ball + 1, ball, 1), columns[ball]);
        }
    }

    static void promise10ABellIsKnocked() {
        Bagatelle x = with(told("04b", "", "a5"), KNOCK, 0, 0, KNOCK, 1, 0);
        columnsDue("straight down", x, 1, 4);
        due("it rings", x.sum(1), 1);
    }

    static void promise10KnockedAtTheEdge() {
        columnsDue("left edge", with(told("00r", "", "a1"), KNOCK, 1, 0), 1, 0);
        columnsDue("right edge", with(told("08l", "", "a9"), KNOCK, 1, 0), 1, 8);
        columnsDue("away from it", with(told("00l;08r", "", "a1;a9"), KNOCK, 1, 0, KNOCK, 1, 1), 1, 1, 7);
    }

    static void promise10NoSuchPinIsKnocked() {
        for (int number = 0; number < 12; number++) {
            columnsDue("no pins", with(told("", "", "a5"), KNOCK, 1, number), 1, 4);
            columnsDue("one pin", with(told("04l", "", "a5"), KNOCK, 1, number), 1, number == 0 ? 5 : 3);
            columnsDue("two", with(told("00r;04l", "", "a5"), KNOCK, 1, number), 1, number == 1 ? 5 : 3);
            columnsDue("a fault", with(told("04l;", "", "a5"), KNOCK, 1, number), 1, 4);
        }
    }

    static void promise10ThePinIsToldLater() {
        Bagatelle x = with(told("", "", "a5"), KNOCK, 1, 0);
        columnsDue("no pin", x, 1, 4);
        typed(x, 0, "04l");
        columnsDue("it is told, and knocked", x, 1, 5);
    }

    static void promise10TheTwelfthPinIsKnocked() {
        columnsDue("not knocked", told(TWELVE_PINS, "", "a4"), 2, 1);
        columnsDue("knocked", with(told(TWELVE_PINS, "", "a4"), KNOCK, 2, 11), 2, 3);
        columnsDue("another one is", with(told(TWELVE_PINS, "", "a4"), KNOCK, 2, 10), 2, 1);
    }

    static void promise10EachCupIsEmptied() {
        for (int column = 0; column < 9; column++) {
            for (int number = 0; number < 12; number++) {
                char hard = (char) ('1' + column);
                Bagatelle x = told("", "111111111", "a" + hard + ";b" + hard);
                x.room(1);
                with(x, EMPTY, 9, number);
                due("cup " + column + " when " + number + " is emptied", x.sum(0), number == column ? 2 : 1);
                due("in it", x.cup(column, 1), 1);
                due("ever", x.cup(column, 2), number == column ? 2 : 1);
            }
        }
    }

    static void promise10EmptiedInItsTick() {
        for (int tick = 0; tick < 24; tick++) {
            Bagatelle x = told("", "1", "a1;b1");
            x.room(1);
            with(x, EMPTY, tick, 0);
            due("emptied in tick " + tick, x.sum(0), tick == 9 ? 2 : 1);
            due("in it", x.cup(0, 1), tick <= 9 ? 1 : 0);
        }
    }

    static void promise10WhatTheyBringStays() {
        Bagatelle x = with(told("", "5", "a1;b1"), EMPTY, 10, 0);
        due("the first one", x.ends(0, 0), 5);
        due("the second one", x.ends(1, 0), 5);
        due("none is in it", x.cup(0, 1), 0);
        due("two ever", x.cup(0, 2), 2);
        due("none is lost", x.sum(2), 0);
        due("none is late", x.late(), 0);
        due("its tick stays", x.ends(0, 1), 8);
    }

    static void promise10AnEmptyCupIsEmptied() {
        Bagatelle x = with(told("", "5", "a1"), EMPTY, 3, 0, EMPTY, 3, 0, EMPTY, 9, 1);
        due("in it", x.cup(0, 1), 1);
        due("in another one", x.cup(1, 1), 0);
    }

    static void promise10TheGutterIsNotEmptied() {
        Bagatelle x = told("", "5", "a1;b1");
        x.room(1);
        with(x, EMPTY, 10, 0);
        due("lost", x.sum(2), 1);
        due("in the gutter", x.at(23, 1, 0), 9);
    }

    static void promise11NoneIsThere() {
        refusedWhenNew(NOT, "back");
        refused(() -> {
            Bagatelle x = plain();
            x.back();
            x.back();
            return x;
        }, NOT, "back");
    }

    static void promise11FromEightToNone() {
        Bagatelle x = full();
        for (int left = 7; left >= 0; left--) {
            due("left", x.back(), left);
            due("counted", x.count(3), left);
        }
        due("none is left", x.back(), NOT);
        due("one more", x.event(0, 0, 0), 1);
    }

    static void promise11OneFindsPlaceAgain() {
        Bagatelle x = full();
        x.back();
        due("one", x.event(2, 23, 11), 8);
        due("no other one", x.event(2, 23, 11), FULL);
    }

    static void promise11TheLastAlone() {
        Bagatelle x = with(told("", "", "a5"), TILT, 5, 1, TILT, 3, 1);
        x.back();
        columnsDue("the last one told is undone", x, 3, 4);
        columnsDue("the first one stays", x, 5, 5);
    }

    static void promise11AnswersAnew() {
        Bagatelle x = plain();
        x.event(0, 1, 0);
        long with = x.digest();
        x.back();
        due("digest", x.digest(), plain().digest());
        dueTrue("it was another one", with != x.digest());
    }

    private static Bagatelle allSheets() {
        Bagatelle x = plain();
        x.sheet(0, 0, 6);
        return x;
    }

    static void promise12Sheets0To3() {
        bounds(EventBounds::allSheets, BAD, BAD, "read", args(0), 0, 0, 3);
    }

    static void promise12ALostSheet() {
        refused(NULL, "read", 0);
        refusedWhenFull(NULL, "read", 0);
        for (int s = 0; s < 4; s++) {
            refusedWhenNew(NULL, "read", s);
        }
    }

    static void promise12AsManyAsAreWhole() {
        for (int form = 0; form < 3; form++) {
            for (int n = 0; n <= 60; n++) {
                Bagatelle x = new Bagatelle();
                x.sheet(3, form, n);
                int want = Math.min(8, n / 3);
                due("of " + n + " items", x.read(3), want);
                due("events", x.count(3), want);
            }
        }
    }

    static void promise12AsLongAsEachMayBe() {
        int[][] good = {{0, 0, 0}, {2, 0, 0}, {0, 23, 0}, {0, 0, 11}, {2, 23, 11}};
        int[][] bad = {{-1, 0, 0}, {3, 0, 0}, {0, -1, 0}, {0, 24, 0}, {0, 0, -1}, {0, 0, 12}};
        for (int form = 0; form < 3; form++) {
            for (int[] e : good) {
                Bagatelle x = lay(new Bagatelle(), 0, form, 0, 1, 2, e[0], e[1], e[2], 0, 1, 2);
                due("all may be", x.read(0), 3);
            }
            for (int[] e : bad) {
                Bagatelle x = lay(new Bagatelle(), 0, form, 0, 1, 2, e[0], e[1], e[2], 0, 1, 2);
                due("the second may not be", x.read(0), 1);
                due("so there is one", x.count(3), 1);
                x = lay(new Bagatelle(), 0, form, e[0], e[1], e[2], 0, 1, 2, 0, 1, 2);
                due("the first may not be", x.read(0), 0);
                due("so there is none", x.count(3), 0);
            }
        }
    }

    static void promise12UpToTheEighth() {
        Bagatelle x = new Bagatelle();
        x.sheet(0, 2, 27);
        due("of nine", x.read(0), 8);
        due("a ninth", x.event(0, 0, 0), FULL);
        Bagatelle told = with(new Bagatelle(), TILT, 0, 0, TILT, 0, 0, TILT, 0, 0);
        told.sheet(0, 2, 15);
        due("five behind three", told.read(0), 5);
        due("none behind eight", told.read(0), 0);
        due("eight", told.count(3), 8);
    }

    static void promise12NoneMayBeChangesNothing() {
        refused(() -> lay(plain(), 1, 0, 0, 24, 0, 0, 0, 0), 0, "read", 1);
        refused(Refused::full, 0, "read", 1);
        refused(() -> lay(plain(), 1, 0, 0, 0), 0, "read", 1);
    }

    static void promise12TheSheetStays() {
        Bagatelle x = lay(new Bagatelle(), 2, 1, 0, 3, 1, 2, 4, 5, 7);
        due("two", x.read(2), 2);
        int[] items = {0, 3, 1, 2, 4, 5, 7};
        for (int i = 0; i < items.length; i++) {
            due("item " + i, x.get(2, 1, i), items[i]);
        }
        due("no finding", x.count(8), 0);
        due("its size", x.lose(2), 7);
    }

    static void promise12AsIfTold() {
        Bagatelle x = lay(told("04l;13t", "123456789", "a5;b5"), 0, 2, 1, 1, 0, 0, 4, 1, 2, 9, 4);
        due("three", x.read(0), 3);
        Bagatelle same = with(told("04l;13t", "123456789", "a5;b5"), KNOCK, 1, 0, TILT, 4, 1, EMPTY, 9, 4);
        due("digest", x.digest(), same.digest());
    }

    static void promise12AnswersAnew() {
        Bagatelle x = lay(told("04l", "123456789", "a5"), 0, 0, 1, 1, 0);
        due("left", x.sum(0), 4);
        x.read(0);
        due("right", x.sum(0), 6);
    }
}
