/** The bounds that the document names for the texts, and for what they tell: promises 1 to 9. */
final class TextBounds extends Refused {
    private static final int[] LIMITS = {47, 9, 35};
    private static final String[] WHOLE = {TWELVE_PINS, "123456789", TWELVE_BALLS};

    static void promise01NothingIsTold() {
        Bagatelle x = new Bagatelle();
        for (int what : new int[] {0, 1, 2, 3, 4, 6, 7}) {
            due("count " + what, x.count(what), 0);
        }
        due("no pin", x.pin(0, 0), BAD);
        due("no ball", x.ball(0, 0), BAD);
        for (int column = 0; column < 9; column++) {
            for (int what = 0; what < 3; what++) {
                due("cup " + column, x.cup(column, what), 0);
            }
        }
        for (int text = 0; text < 3; text++) {
            due("no byte", x.undo(text), NOT);
            due("no fault", x.fault(text), NONE);
        }
        due("no event", x.back(), NOT);
        due("nothing seen", x.forget(), 0);
    }

    static void promise01Constants() {
        due("NONE", Bagatelle.NONE, -1);
        due("BAD", Bagatelle.BAD, -2);
        due("NOT", Bagatelle.NOT, -3);
        due("FULL", Bagatelle.FULL, -4);
    }

    static void promise01RoomIs2() {
        Bagatelle x = told("", "1", "a1;b1;c1");
        due("room", x.count(5), 2);
        due("the second one is in", x.at(23, 1, 0), 8);
        due("the third one is not", x.at(23, 2, 0), 9);
    }

    static void promise01AllSheetsAreLost() {
        for (int s = 0; s < 4; s++) {
            refusedWhenNew(NULL, "lose", s);
            refusedWhenNew(NULL, "read", s);
            for (int form = 0; form < 3; form++) {
                refusedWhenNew(NULL, "lay", s, form, 0, 0);
            }
        }
    }

    static void promise01NoFindingYet() {
        due("count 8", new Bagatelle().count(8), 0);
    }

    static void promise01NothingComesOfNothing() {
        Bagatelle x = new Bagatelle();
        for (int what = 0; what < 3; what++) {
            due("sum", x.sum(what), 0);
        }
        due("late", x.late(), 0);
        due("best", x.best(), NONE);
        due("jam", x.jam(0), 0);
        due("jam", x.jam(1), 0);
        due("spare", x.spare(NONE), 0);
        due("spare", x.spare(0), NONE);
        due("never", x.never(), 0);
        for (int cell = 0; cell < 72; cell++) {
            due("sees", x.sees(23, cell / 9, cell % 9), NONE);
        }
    }

    static void promise01ObjectsShareNothing() {
        Bagatelle x = new Bagatelle();
        long digest = x.digest();
        Bagatelle other = full();
        other.room(9);
        other.digest();
        due("digest of the first one", x.digest(), digest);
        due("no sheet", x.lose(1), NULL);
        due("digest of another one", new Bagatelle().digest(), digest);
    }

    static void promise02Texts0To2() {
        bounds("type", args(0, '1'), 0, 0, 2);
    }

    static void promise02Bytes0To255() {
        for (int text = 0; text < 3; text++) {
            bounds("type", args(text, '1'), 1, 0, 255);
        }
    }

    static void promise02BytesAreCounted() {
        for (int text = 0; text < 3; text++) {
            Bagatelle x = new Bagatelle();
            for (int n = 1; n <= LIMITS[text]; n++) {
                due("byte " + n + " of text " + text, x.type(text, WHOLE[text].charAt(n - 1)), n);
            }
        }
    }

    static void promise02TheLastByteThatFinds() {
        for (int text = 0; text < 3; text++) {
            Bagatelle x = typed(new Bagatelle(), text, WHOLE[text].substring(0, LIMITS[text] - 1));
            due("the last byte", x.type(text, WHOLE[text].charAt(LIMITS[text] - 1)), LIMITS[text]);
            due("one more", x.type(text, ';'), FULL);
            due("it stays so long", x.count(2), LIMITS[text]);
            due("and well", x.fault(text), NONE);
        }
    }

    static void promise02FullChangesNothing() {
        for (int text = 0; text < 3; text++) {
            refusedWhenFull(FULL, "type", text, ';');
            refusedWhenFull(FULL, "type", text, 0);
            refusedWhenFull(FULL, "type", text, 255);
        }
    }

    static void promise02BadAheadOfFull() {
        for (int text = 0; text < 3; text++) {
            refusedWhenFull(BAD, "type", text, -1);
            refusedWhenFull(BAD, "type", text, 256);
        }
        refusedWhenFull(BAD, "type", 3, '1');
        refusedWhenFull(BAD, "type", -1, '1');
    }

    static void promise02AFullTextIsAloneFull() {
        for (int text = 0; text < 3; text++) {
            Bagatelle x = typed(new Bagatelle(), text, WHOLE[text]);
            due("another one", x.type((text + 1) % 3, '1'), 1);
            due("the third one", x.type((text + 2) % 3, '1'), 1);
        }
    }

    static void promise02BytesBehindAFault() {
        for (int text = 0; text < 3; text++) {
            Bagatelle x = new Bagatelle();
            for (int n = 1; n <= LIMITS[text]; n++) {
                due("byte " + n, x.type(text, '!'), n);
            }
            due("fault", x.fault(text), 0);
            due("one more", x.type(text, '!'), FULL);
        }
    }

    static void promise03Texts0To2() {
        bounds("wipe", args(0), 0, 0, 2);
    }

    static void promise03AnEmptyText() {
        for (int text = 0; text < 3; text++) {
            Bagatelle x = plain();
            x.wipe(text);
            due("it had none", x.wipe(text), 0);
            due("and is well", x.fault(text), NONE);
        }
    }

    static void promise03AFullText() {
        for (int text = 0; text < 3; text++) {
            Bagatelle x = full();
            due("it had", x.wipe(text), LIMITS[text]);
            due("the others stay", x.count(2), 91 - LIMITS[text]);
            due("all may come anew", x.type(text, WHOLE[text].charAt(0)), 1);
        }
    }

    static void promise03OneByte() {
        for (int text = 0; text < 3; text++) {
            Bagatelle x = typed(new Bagatelle(), text, "1");
            due("it had", x.wipe(text), 1);
            due("it has", x.count(2), 0);
        }
    }

    static void promise03WhatItToldIsGone() {
        Bagatelle x = plain();
        x.wipe(0);
        due("no pins", x.count(0), 0);
        due("no pin", x.pin(0, 0), BAD);
        due("straight down", x.at(1, 0, 1), 4);
        x.wipe(1);
        for (int column = 0; column < 9; column++) {
            due("worth", x.cup(column, 0), 0);
        }
        x.wipe(2);
        due("no balls", x.count(1), 0);
        due("no ball", x.ball(0, 0), BAD);
        due("events stay", x.count(3), 2);
        due("what was seen stays", x.count(7), 1);
    }

    static void promise03AFaultIsGone() {
        for (int text = 0; text < 3; text++) {
            Bagatelle x = typed(new Bagatelle(), text, "!!!");
            due("fault", x.fault(text), 0);
            due("it had", x.wipe(text), 3);
            due("no fault", x.fault(text), NONE);
        }
    }

    static void promise04Texts0To2() {
        bounds("undo", args(0), 0, 0, 2);
    }

    static void promise04OfAnEmptyText() {
        for (int text = 0; text < 3; text++) {
            refusedWhenNew(NOT, "undo", text);
            int wiped = text;
            refused(() -> {
                Bagatelle x = plain();
                x.wipe(wiped);
                return x;
            }, NOT, "undo", text);
        }
    }

    static void promise04DownToTheFirstByte() {
        for (int text = 0; text < 3; text++) {
            Bagatelle x = full();
            for (int left = LIMITS[text] - 1; left >= 0; left--) {
                due("left", x.undo(text), left);
            }
            due("none is left", x.undo(text), NOT);
            due("the others stay", x.count(2), 91 - LIMITS[text]);
        }
    }

    static void promise04TheLastByteAlone() {
        Bagatelle x = told("04t;13l", "12", "a5;b6");
        x.undo(1);
        due("the first one stays", x.cup(0, 0), 1);
        due("the last one is undone", x.cup(1, 0), 0);
        x.undo(2);
        due("not ended", x.fault(2), 4);
        x.type(2, '7');
        due("another one in its place", x.ball(1, 1), 7);
        due("the one ahead of it stays", x.ball(0, 1), 5);
        x.undo(0);
        x.type(0, 'b');
        due("another one in its place", x.pin(1, 2), 3);
        due("the one ahead of it stays", x.pin(0, 2), 2);
    }

    static void promise04WellAgain() {
        Bagatelle x = told("04t;", "12x", "a5;");
        for (int text = 0; text < 3; text++) {
            x.undo(text);
            due("no fault", x.fault(text), NONE);
        }
        due("a pin", x.count(0), 1);
        due("worth", x.cup(1, 0), 2);
        due("a ball", x.count(1), 1);
    }

    static void promise04OneFindsPlaceAgain() {
        for (int text = 0; text < 3; text++) {
            Bagatelle x = full();
            x.undo(text);
            due("one finds place", x.type(text, '1'), LIMITS[text]);
            due("no other one", x.type(text, '1'), FULL);
        }
    }

    static void promise05Texts0To2() {
        bounds("fault", args(0), 0, 0, 2);
    }

    private static int faultOf(int text, String bytes) {
        return typed(new Bagatelle(), text, bytes).fault(text);
    }

    private static void faultDue(int text, String bytes, int want) {
        due("fault of \"" + bytes + "\"", faultOf(text, bytes), want);
    }

    /** Of all bytes, just these may stand behind the text ahead of them. */
    private static void onlyThese(int text, String ahead, String these, String behind) {
        for (int b = 0; b < 256; b++) {
            int want = these.indexOf(b) < 0 ? ahead.length() : NONE;
            due("fault with byte " + b + " behind \"" + ahead + "\"", faultOf(text, ahead + (char) b + behind), want);
        }
    }

    static void promise05AnEmptyTextIsWell() {
        for (int text = 0; text < 3; text++) {
            faultDue(text, "", NONE);
        }
    }

    static void promise05PinsNotEnded() {
        String pins = "00l;01r;78b";
        for (int n = 1; n < pins.length(); n++) {
            faultDue(0, pins.substring(0, n), n % 4 == 3 ? NONE : n);
        }
        for (int n = 1; n < 47; n++) {
            faultDue(0, TWELVE_PINS.substring(0, n), n % 4 == 3 ? NONE : n);
        }
    }

    static void promise05BallsNotEnded() {
        for (int n = 1; n < 35; n++) {
            faultDue(2, TWELVE_BALLS.substring(0, n), n % 3 == 2 ? NONE : n);
        }
    }

    static void promise05CupsMayEndAnywhere() {
        for (int n = 0; n <= 9; n++) {
            faultDue(1, "987654321".substring(0, n), NONE);
        }
    }

    static void promise05Rows0To7() {
        onlyThese(0, "", "01234567", "0l");
        onlyThese(0, "08l;", "01234567", "0l");
    }

    static void promise05Columns0To8() {
        onlyThese(0, "0", "012345678", "l");
        onlyThese(0, "00l;7", "012345678", "l");
    }

    static void promise05SortsOfPins() {
        onlyThese(0, "00", "lrtb", "");
        onlyThese(0, "00l;78", "lrtb", "");
    }

    static void promise05BetweenPins() {
        onlyThese(0, "00l", ";", "01r");
        onlyThese(0, "00l;01r", ";", "02r");
    }

    static void promise05WorthsOfCups() {
        onlyThese(1, "", "0123456789", "");
        onlyThese(1, "12345678", "0123456789", "");
    }

    static void promise05TicksOfBalls() {
        onlyThese(2, "", "abcdefghijklmnopqrstuvwx", "1");
        onlyThese(2, "a1;", "abcdefghijklmnopqrstuvwx", "1");
    }

    static void promise05HowHard1To9() {
        onlyThese(2, "a", "123456789", "");
        onlyThese(2, "a1;x", "123456789", "");
    }

    static void promise05BetweenBalls() {
        onlyThese(2, "a1", ";", "b1");
        onlyThese(2, "a1;b1", ";", "c1");
    }

    static void promise05ASecondPinAtAPlace() {
        faultDue(0, "04l;04", 5);
        faultDue(0, "04l;04l", 5);
        faultDue(0, "04l;04r", 5);
        faultDue(0, "04l;04x", 5);
        faultDue(0, "00l;00l", 5);
        faultDue(0, "78l;78l", 5);
        faultDue(0, "04l;15r;04t", 9);
        faultDue(0, "04l;15r;15t", 9);
        faultDue(0, TWELVE_PINS.substring(0, 44) + "11l", 45);
    }

    static void promise05NotASecondPinAtAPlace() {
        faultDue(0, "04l;14l", NONE);
        faultDue(0, "04l;05l", NONE);
        faultDue(0, "40l;04l", NONE);
        faultDue(0, "08l;10l", NONE);
        faultDue(0, "04l;0", 5);
    }

    static void promise05TwelvePinsAreWell() {
        Bagatelle x = told(TWELVE_PINS, "", "");
        due("fault", x.fault(0), NONE);
        due("pins", x.count(0), 12);
        due("a thirteenth one finds no place", x.type(0, ';'), FULL);
        due("fault", x.fault(0), NONE);
    }

    static void promise05TwelveBallsAreWell() {
        Bagatelle x = told("", "", TWELVE_BALLS);
        due("fault", x.fault(2), NONE);
        due("balls", x.count(1), 12);
        due("a thirteenth one finds no place", x.type(2, ';'), FULL);
        due("fault", x.fault(2), NONE);
    }

    static void promise05TheFirstOfTwoFaults() {
        faultDue(0, "80l;01x", 0);
        faultDue(0, "09x", 1);
        faultDue(0, "04l;04x;9", 5);
        faultDue(0, "04x;04l", 2);
        faultDue(0, "04l,04l", 3);
        faultDue(1, "1x2y", 1);
        faultDue(2, "a0;y1", 1);
        faultDue(2, "y0", 0);
        faultDue(2, "a1:b0", 2);
    }

    static void promise05EmptyPlacesBetween() {
        faultDue(0, ";", 0);
        faultDue(0, "00l;;01l", 4);
        faultDue(1, ";", 0);
        faultDue(2, ";", 0);
        faultDue(2, "a1;;b1", 3);
    }

    static void promise05BallsMayBeAlike() {
        faultDue(2, "a1;a1;a1", NONE);
    }

    static void promise05WithAFaultPinsAreNone() {
        Bagatelle x = told("04l;13l", "123456789", "a5");
        x.type(0, ';');
        due("fault", x.fault(0), 8);
        due("pins", x.count(0), 0);
        due("pin", x.pin(0, 0), BAD);
        due("bend", x.bend(0, 0), BAD);
        due("kind", x.kind(0), BAD);
        due("straight down", x.ends(0, 0), 5);
        due("the others stay", x.count(1), 1);
        due("bytes all the same", x.count(2), 8 + 9 + 2);
    }

    static void promise05WithAFaultCupsAreWorth0() {
        Bagatelle x = told("04l", "12345678", "a5");
        x.type(1, '!');
        due("fault", x.fault(1), 8);
        for (int column = 0; column < 9; column++) {
            due("worth", x.cup(column, 0), 0);
        }
        due("score", x.sum(0), 0);
        due("it is in a cup", x.cup(3, 1), 1);
        due("pins stay", x.count(0), 1);
    }

    static void promise05WithAFaultBallsAreNone() {
        Bagatelle x = told("04l", "123456789", "a5;b5");
        x.type(2, ';');
        due("fault", x.fault(2), 6);
        due("balls", x.count(1), 0);
        due("ball", x.ball(0, 0), BAD);
        due("at", x.at(0, 0, 0), BAD);
        due("ends", x.ends(0, 0), BAD);
        due("shoot", x.shoot(0, 0), BAD);
        due("time", x.time(0, 0), BAD);
        due("forces", x.forces(0), BAD);
        due("ask", x.ask(0), BAD);
        due("chance", x.chance(5, 0, 0), LONG_BAD);
        due("late", x.late(), 0);
        due("nobody comes in", x.sees(0, 0, 4), NONE);
    }

    static void promise06Pins() {
        bounds("pin", args(0, 0), 0, 0, 2);
        bounds(Refused::full, BAD, BAD, "pin", args(0, 0), 0, 0, 11);
        refusedWhenNew(BAD, "pin", 0, 0);
    }

    static void promise06What0To2() {
        bounds("pin", args(0, 0), 1, 0, 2);
        bounds("pin", args(2, 0), 1, 0, 2);
    }

    static void promise06BothBad() {
        refused(BAD, "pin", 3, 3);
        refused(BAD, "pin", -1, -1);
    }

    static void promise06TheLeastAndTheMost() {
        Bagatelle x = told("00l;08r;70t;78b", "", "");
        int[][] want = {{0, 0, 0}, {0, 8, 1}, {7, 0, 2}, {7, 8, 3}};
        for (int pin = 0; pin < 4; pin++) {
            for (int what = 0; what < 3; what++) {
                due("pin " + pin, x.pin(pin, what), want[pin][what]);
            }
        }
    }

    static void promise06TheTwelfth() {
        Bagatelle x = full();
        due("row", x.pin(11, 0), 1);
        due("column", x.pin(11, 1), 2);
        due("sort", x.pin(11, 2), 0);
    }

    static void promise06AsToldThoughKnockedOrTurned() {
        Bagatelle x = told("04l;15t;03r", "", "a5;a6");
        x.event(1, 0, 0);
        x.event(1, 0, 1);
        x.event(1, 0, 2);
        due("sums are asked for", x.sum(0), 0);
        due("left", x.pin(0, 2), 0);
        due("turns", x.pin(1, 2), 2);
        due("right", x.pin(2, 2), 1);
    }

    static void promise07Columns0To8() {
        for (int what = 0; what < 3; what++) {
            bounds("cup", args(0, what), 0, 0, 8);
        }
    }

    static void promise07What0To2() {
        bounds("cup", args(4, 0), 1, 0, 2);
    }

    static void promise07BothBad() {
        refused(BAD, "cup", 9, 3);
        refused(BAD, "cup", -1, -1);
    }

    static void promise07LaterOnesAreWorth0() {
        for (int n = 0; n <= 9; n++) {
            Bagatelle x = typed(new Bagatelle(), 1, "999999999".substring(0, n));
            for (int column = 0; column < 9; column++) {
                due("worth with " + n + " told", x.cup(column, 0), column < n ? 9 : 0);
            }
        }
    }

    static void promise07TheLeastAndTheMostWorth() {
        Bagatelle x = told("", "012345678", "");
        for (int column = 0; column < 9; column++) {
            due("worth", x.cup(column, 0), column);
        }
    }

    static void promise07InItUpToItsRoom() {
        Bagatelle x = told("", "", TWELVE_BALLS.replace("a2", "a1").replace("a3", "a1"));
        due("in it", x.cup(0, 1), 2);
        due("ever", x.cup(0, 2), 2);
        due("none in another one", x.cup(5, 1), 1);
        x.room(9);
        due("in it", x.cup(0, 1), 4);
        due("ever", x.cup(0, 2), 4);
    }

    static void promise07TheLastTick() {
        Bagatelle x = told("", "", "p1;q1");
        due("falls in with TICK 23", x.cup(0, 1), 1);
        due("ever", x.cup(0, 2), 1);
        x.event(2, 23, 0);
        due("emptied ahead of the fall", x.cup(0, 1), 1);
        due("ever", x.cup(0, 2), 1);
    }

    static void promise07EmptiedWithTheLastTick() {
        Bagatelle x = told("", "5", "o1");
        x.event(2, 23, 0);
        due("none in it", x.cup(0, 1), 0);
        due("one ever", x.cup(0, 2), 1);
        due("what it brings stays", x.sum(0), 5);
    }

    static void promise08Balls() {
        bounds("ball", args(0, 0), 0, 0, 2);
        bounds(Refused::full, BAD, BAD, "ball", args(0, 0), 0, 0, 11);
        refusedWhenNew(BAD, "ball", 0, 0);
    }

    static void promise08What0To1() {
        bounds("ball", args(0, 0), 1, 0, 1);
    }

    static void promise08BothBad() {
        refused(BAD, "ball", 3, 2);
        refused(BAD, "ball", -1, -1);
    }

    static void promise08TheLeastAndTheMost() {
        Bagatelle x = told("", "", "a1;x9;a9;x1");
        int[][] want = {{0, 1}, {23, 9}, {0, 9}, {23, 1}};
        for (int ball = 0; ball < 4; ball++) {
            due("tick", x.ball(ball, 0), want[ball][0]);
            due("hard", x.ball(ball, 1), want[ball][1]);
        }
    }

    static void promise08AllLetters() {
        for (int tick = 0; tick < 24; tick++) {
            Bagatelle x = typed(new Bagatelle(), 2, (char) ('a' + tick) + "1");
            due("tick", x.ball(0, 0), tick);
            due("comes in", x.at(tick, 0, 0), 0);
        }
    }

    static void promise08AsToldThoughItWaits() {
        Bagatelle x = told("", "", "a1;a1");
        due("comes in later", x.at(1, 1, 0), 0);
        due("as told", x.ball(1, 0), 0);
    }

    static void promise09Room1To9() {
        bounds("room", args(1), 0, 1, 9);
    }

    static void promise09WhatItWas() {
        Bagatelle x = new Bagatelle();
        int was = 2;
        for (int v : new int[] {1, 9, 9, 5, 1}) {
            due("it was", x.room(v), was);
            due("it is", x.count(5), v);
            was = v;
        }
        due("bad", x.room(10), BAD);
        due("it was", x.room(2), 1);
    }

    static void promise09TheLastThatFindsRoom() {
        for (int room = 1; room <= 9; room++) {
            Bagatelle x = told("", "1", TWELVE_ALIKE);
            x.room(room);
            due("the last one with room " + room, x.at(23, room - 1, 0), 8);
            due("the next one", x.at(23, room, 0), 9);
            due("score", x.sum(0), room);
            due("lost", x.sum(2), 12 - room);
        }
    }

    static void promise09EachCupByItself() {
        Bagatelle x = told("", "11", "a1;a2;b1;b2");
        x.room(1);
        due("one in each", x.sum(0), 2);
        due("in the first", x.cup(0, 1), 1);
        due("in the second", x.cup(1, 1), 1);
        due("lost", x.sum(2), 2);
    }

    static void promise09AnswersAnew() {
        Bagatelle x = told("", "1", "a1;b1;c1");
        x.digest();
        x.room(3);
        Bagatelle fresh = told("", "1", "a1;b1;c1");
        fresh.room(3);
        due("digest", x.digest(), fresh.digest());
    }
}
