import java.math.BigInteger;
import java.util.ArrayList;
import java.util.Collections;
import java.util.List;
import java.util.function.Supplier;

/** The bounds that the document names for SHEETS, for FINDINGS and for the digest: promises 32 to 39. */
final class SheetBounds extends Refused {
    private static final int FORMS = 3;

    /** Nine balls by seed 7: three of them are shot by 8, with TICKS 11, 14 and 13, into a cup with ROOM for 2. */
    private static final long LOST_OF_SEED_7 = 1;

    private static void itemsDue(String what, Bagatelle x, int s, int form, int... items) {
        for (int i = 0; i < items.length; i++) {
            due(what + ", item " + i, x.get(s, form, i), items[i]);
        }
        due(what + ": no item more", x.get(s, form, items.length), LEAST);
    }

    /** A refusal of get(), which answers the least int for all of them. */
    private static void getRefused(int finding, int... args) {
        refused(Refused::plain, LEAST, finding, "get", args);
    }

    static void promise32Sheets0To3() {
        bounds("sheet", args(0, 0, 0), 0, 0, 3);
    }

    static void promise32Forms0To2() {
        bounds("sheet", args(0, 0, 0), 1, 0, 2);
    }

    static void promise32Items0To60() {
        for (int form = 0; form < FORMS; form++) {
            bounds(Refused::plain, SIZE, BAD, "sheet", args(1, form, 0), 2, 0, 60);
            bounds(Bagatelle::new, SIZE, BAD, "sheet", args(3, form, 0), 2, 0, 60);
        }
    }

    static void promise32BadAheadOfSize() {
        refused(BAD, "sheet", 4, 0, -1);
        refused(BAD, "sheet", -1, 0, -1);
        refused(BAD, "sheet", 1, 3, -1);
        refused(BAD, "sheet", 1, -1, LEAST);
    }

    static void promise32SizeChangesNothing() {
        for (int s = 0; s < 4; s++) {
            refused(SIZE, "sheet", s, 0, -1);
            refusedWhenFull(SIZE, "sheet", s, 2, LEAST);
        }
    }

    static void promise32HowMany() {
        Bagatelle x = new Bagatelle();
        for (int n = 0; n <= 60; n++) {
            due("items", x.sheet(n % 4, n % 3, n), n);
            due("items", x.lose(n % 4), n);
        }
    }

    static void promise32TheItemsAre0() {
        for (int form = 0; form < FORMS; form++) {
            Bagatelle x = lay(new Bagatelle(), 2, form, 1, 2, 3);
            x.sheet(2, form, 4);
            itemsDue("a new row", x, 2, form, 0, 0, 0, 0);
            x.sheet(2, (form + 1) % 3, 2);
            itemsDue("a row of another form", x, 2, (form + 1) % 3, 0, 0);
            due("the form ahead of it is no more", x.lay(2, form, 0, 1), CAST);
        }
    }

    static void promise32TheSixtiethItem() {
        for (int form = 0; form < FORMS; form++) {
            Bagatelle x = new Bagatelle();
            x.sheet(0, form, 60);
            due("0 at first", x.get(0, form, 59), 0);
            due("the last one", x.lay(0, form, 59, 7), 1);
            due("the last one", x.get(0, form, 59), 7);
            due("no other one", x.lay(0, form, 60, 7), INDEX);
        }
    }

    static void promise32NoItems() {
        Bagatelle x = new Bagatelle();
        due("none", x.sheet(0, 0, 0), 0);
        due("it has none", x.lay(0, 0, 0, 0), INDEX);
        due("but is not lost", x.lose(0), 0);
    }

    static void promise32TheOthersStay() {
        Bagatelle x = plain();
        x.sheet(2, 0, 5);
        itemsDue("bytes", x, 1, 0, 1, 2, 3);
        itemsDue("ints", x, 3, 2, 8, 9, 10, 11, 12);
        due("lost", x.lose(0), NULL);
    }

    private static Bagatelle allSheets() {
        Bagatelle x = plain();
        x.sheet(0, 0, 6);
        return x;
    }

    static void promise33Sheets0To3() {
        bounds(SheetBounds::allSheets, BAD, BAD, "lose", args(0), 0, 0, 3);
    }

    static void promise33ALostSheet() {
        refused(NULL, "lose", 0);
        for (int s = 0; s < 4; s++) {
            refusedWhenNew(NULL, "lose", s);
            int lost = s;
            refused(() -> {
                Bagatelle x = allSheets();
                x.lose(0);
                if (lost > 0) {
                    x.lose(lost);
                }
                return x;
            }, NULL, "lose", s);
        }
    }

    static void promise33HowManyItHad() {
        Bagatelle x = new Bagatelle();
        for (int n : new int[] {0, 1, 59, 60}) {
            for (int form = 0; form < FORMS; form++) {
                x.sheet(1, form, n);
                due("it had", x.lose(1), n);
                due("it is lost", x.lose(1), NULL);
            }
        }
    }

    static void promise33TheOthersStay() {
        Bagatelle x = plain();
        x.lose(2);
        itemsDue("bytes", x, 1, 0, 1, 2, 3);
        itemsDue("ints", x, 3, 2, 8, 9, 10, 11, 12);
    }

    static void promise33MadeAnew() {
        Bagatelle x = plain();
        x.lose(1);
        x.sheet(1, 0, 3);
        itemsDue("0 at first", x, 1, 0, 0, 0, 0);
    }

    static void promise34Sheets0To3() {
        bounds(() -> {
            Bagatelle x = plain();
            for (int s = 0; s < 4; s++) {
                x.sheet(s, 0, 2);
            }
            return x;
        }, BAD, BAD, "lay", args(0, 0, 0, 9), 0, 0, 3);
    }

    static void promise34Forms0To2() {
        for (int s = 1; s < 4; s++) {
            for (int form : new int[] {-1, 3, LEAST, MANY}) {
                refused(BAD, "lay", s, form, 0, 9);
            }
            due("its own form", plain().lay(s, s - 1, 0, 9), 1);
        }
    }

    static void promise34Items() {
        bounds(Refused::plain, INDEX, INDEX, "lay", args(1, 0, 0, 9), 2, 0, 2);
        bounds(Refused::plain, INDEX, INDEX, "lay", args(2, 1, 0, 9), 2, 0, 3);
        bounds(Refused::plain, INDEX, INDEX, "lay", args(3, 2, 0, 9), 2, 0, 4);
        bounds(Refused::full, INDEX, INDEX, "lay", args(3, 2, 0, 9), 2, 0, 59);
    }

    static void promise34AnItemOfNone() {
        refused(() -> {
            Bagatelle x = plain();
            x.sheet(1, 0, 0);
            return x;
        }, INDEX, "lay", 1, 0, 0, 9);
    }

    static void promise34ALostSheet() {
        for (int form = 0; form < FORMS; form++) {
            refused(NULL, "lay", 0, form, 0, 9);
        }
    }

    static void promise34AnotherForm() {
        for (int s = 1; s < 4; s++) {
            for (int form = 0; form < FORMS; form++) {
                if (form != s - 1) {
                    refused(CAST, "lay", s, form, 0, 9);
                }
            }
        }
    }

    static void promise34TheFirstThatFits() {
        refused(BAD, "lay", 0, 3, 99, 9);
        refused(BAD, "lay", 0, -1, 0, 9);
        refused(BAD, "lay", 1, 3, 99, 9);
        refused(NULL, "lay", 0, 0, 99, 9);
        refused(NULL, "lay", 0, 1, -1, 9);
        refused(CAST, "lay", 1, 1, 99, 9);
        refused(CAST, "lay", 3, 0, -1, 9);
    }

    static void promise34TheLowestBits() {
        int[] laid = {127, 128, 255, 256, -128, -129, -256, 32767, 32768, 65535, 65536, -32768, -32769, MANY, LEAST};
        for (int form = 0; form < FORMS; form++) {
            Bagatelle x = new Bagatelle();
            x.sheet(0, form, 3);
            for (int v : laid) {
                due("lay " + v, x.lay(0, form, 1, v), 1);
                int want = form == 0 ? (byte) v : form == 1 ? (short) v : v;
                itemsDue(v + " in form " + form, x, 0, form, 0, want, 0);
            }
        }
        Bagatelle bytes = lay(new Bagatelle(), 0, 0, 128, 255, 256, 32767);
        itemsDue("bytes", bytes, 0, 0, -128, -1, 0, -1);
        Bagatelle shorts = lay(new Bagatelle(), 0, 1, 128, 32768, 65535, 65536);
        itemsDue("shorts", shorts, 0, 1, 128, -32768, -1, 0);
    }

    static void promise35Sheets0To3() {
        for (int s : new int[] {-1, 4, LEAST, MANY}) {
            getRefused(0, s, 0, 0);
        }
        for (int s = 1; s < 4; s++) {
            dueTrue("sheet " + s, plain().get(s, s - 1, 0) > 0);
        }
        due("sheet 0", allSheets().get(0, 0, 0), 0);
    }

    static void promise35Forms0To2() {
        for (int s = 1; s < 4; s++) {
            for (int form : new int[] {-1, 3, LEAST, MANY}) {
                getRefused(0, s, form, 0);
            }
        }
    }

    static void promise35Items() {
        int[] sizes = {0, 3, 4, 5};
        for (int s = 1; s < 4; s++) {
            for (int i : new int[] {-1, LEAST, sizes[s], MANY}) {
                getRefused(2, s, s - 1, i);
            }
            dueTrue("the last item", plain().get(s, s - 1, sizes[s] - 1) > 0);
        }
    }

    static void promise35ALostSheet() {
        for (int form = 0; form < FORMS; form++) {
            getRefused(1, 0, form, 0);
        }
    }

    static void promise35AnotherForm() {
        for (int s = 1; s < 4; s++) {
            for (int form = 0; form < FORMS; form++) {
                if (form != s - 1) {
                    getRefused(3, s, form, 0);
                }
            }
        }
    }

    static void promise35TheFirstThatFits() {
        getRefused(0, 0, 3, 99);
        getRefused(0, 0, -1, 0);
        getRefused(0, 4, 3, 99);
        getRefused(1, 0, 0, 99);
        getRefused(1, 0, 2, -1);
        getRefused(3, 1, 1, 99);
        getRefused(3, 3, 0, -1);
    }

    static void promise35TheLeastIntAsAnItem() {
        Bagatelle x = lay(new Bagatelle(), 0, 2, LEAST);
        due("it may be an item", x.get(0, 2, 0), LEAST);
        due("which is no finding", x.count(8), 0);
    }

    static void promise36Sheets0To3() {
        for (int bad : new int[] {-1, 4, LEAST, MANY}) {
            refused(BAD, "copy", bad, 0, 1, 0, 1);
            refused(BAD, "copy", 1, 0, bad, 0, 1);
            refused(BAD, "copy", bad, 0, bad, 0, 1);
        }
        for (int s = 0; s < 4; s++) {
            Bagatelle x = allSheets();
            due("sheet " + s + " to itself", x.copy(s, 0, s, 1, 1), 1);
        }
    }

    static void promise36ALostSheet() {
        refused(NULL, "copy", 0, 0, 1, 0, 1);
        refused(NULL, "copy", 1, 0, 0, 0, 1);
        refused(NULL, "copy", 0, 0, 0, 0, 0);
    }

    static void promise36UnlikeForms() {
        for (int s = 1; s < 4; s++) {
            for (int t = 1; t < 4; t++) {
                if (s != t) {
                    refused(STORE, "copy", s, 0, t, 0, 1);
                    refused(STORE, "copy", s, 0, t, 0, 0);
                }
            }
        }
    }

    static void promise36TheFirstThatFits() {
        refused(BAD, "copy", 0, 0, 4, 0, -1);
        refused(BAD, "copy", 4, 0, 0, 0, 1);
        refused(BAD, "copy", 1, 99, -1, 0, 1);
        refused(NULL, "copy", 0, 99, 1, 0, 1);
        refused(NULL, "copy", 3, -1, 0, 0, 1);
        refused(NULL, "copy", 0, 0, 2, 0, -1);
        refused(STORE, "copy", 1, 99, 2, 0, 1);
        refused(STORE, "copy", 1, 0, 2, -1, 1);
        refused(STORE, "copy", 3, 0, 2, 0, -1);
    }

    /** Two sheets of like forms, of 3 and of 5 items. */
    private static Bagatelle alike() {
        Bagatelle x = plain();
        lay(x, 1, 2, 1, 2, 3);
        return x;
    }

    static void promise36BelowZero() {
        for (int below : new int[] {-1, LEAST}) {
            refused(SheetBounds::alike, INDEX, "copy", 1, below, 3, 0, 1);
            refused(SheetBounds::alike, INDEX, "copy", 1, 0, 3, below, 1);
            refused(SheetBounds::alike, INDEX, "copy", 1, 0, 3, 0, below);
            refused(SheetBounds::alike, INDEX, "copy", 1, below, 3, below, below);
            refused(SheetBounds::alike, INDEX, "copy", 1, below, 3, 0, 0);
            refused(SheetBounds::alike, INDEX, "copy", 1, 0, 3, below, 0);
        }
    }

    static void promise36NotSoMany() {
        int[][] tooMany = {{1, 0, 3, 0, 4}, {1, 1, 3, 0, 3}, {1, 3, 3, 0, 1}, {1, 4, 3, 0, 0}, {3, 0, 1, 0, 4},
            {3, 0, 1, 1, 3}, {3, 0, 1, 3, 1}, {3, 0, 1, 4, 0}, {1, 0, 1, 1, 3}, {1, 1, 1, 0, 3}, {3, 0, 3, 0, 6}};
        for (int[] args : tooMany) {
            refused(SheetBounds::alike, INDEX, "copy", args);
        }
    }

    static void promise36NumbersThatWouldWrap() {
        int[][] wraps = {{1, 1, 3, 0, MANY}, {1, MANY, 3, 0, 1}, {1, MANY, 3, 0, MANY}, {1, 0, 3, MANY, 1},
            {1, 0, 3, 1, MANY}, {1, 0, 3, MANY, MANY}, {1, LEAST, 3, 0, MANY}, {1, 0, 3, LEAST, LEAST}};
        for (int[] args : wraps) {
            refused(SheetBounds::alike, INDEX, "copy", args);
        }
    }

    static void promise36Whole() {
        Bagatelle x = alike();
        due("all of one", x.copy(1, 0, 3, 0, 3), 1);
        itemsDue("to the other's begin", x, 3, 2, 1, 2, 3, 11, 12);
        x = alike();
        due("all of one", x.copy(1, 0, 3, 2, 3), 1);
        itemsDue("to the other's end", x, 3, 2, 8, 9, 1, 2, 3);
        x = alike();
        due("the end of one", x.copy(3, 2, 1, 0, 3), 1);
        itemsDue("to the other, whole", x, 1, 2, 10, 11, 12);
        itemsDue("which stays", x, 3, 2, 8, 9, 10, 11, 12);
    }

    static void promise36NoItems() {
        int[][] none = {{1, 0, 3, 0, 0}, {1, 3, 3, 5, 0}, {3, 5, 1, 3, 0}, {3, 5, 3, 5, 0}, {3, 0, 3, 5, 0}};
        for (int[] args : none) {
            refused(SheetBounds::alike, 1, "copy", args);
        }
        Bagatelle x = new Bagatelle();
        x.sheet(0, 0, 0);
        due("of no items", x.copy(0, 0, 0, 0, 0), 1);
        due("of no items", x.copy(0, 0, 0, 0, 1), INDEX);
    }

    static void promise36AsTheyWere() {
        Bagatelle x = plain();
        due("onwards", x.copy(3, 0, 3, 1, 4), 1);
        itemsDue("onwards", x, 3, 2, 8, 8, 9, 10, 11);
        x = plain();
        due("backwards", x.copy(3, 1, 3, 0, 4), 1);
        itemsDue("backwards", x, 3, 2, 9, 10, 11, 12, 12);
        x = plain();
        due("onto themselves", x.copy(3, 0, 3, 0, 5), 1);
        itemsDue("onto themselves", x, 3, 2, 8, 9, 10, 11, 12);
        x = plain();
        due("two apart", x.copy(3, 0, 3, 2, 3), 1);
        itemsDue("two apart", x, 3, 2, 8, 9, 8, 9, 10);
    }

    static void promise36EachForm() {
        for (int form = 0; form < FORMS; form++) {
            Bagatelle x = lay(new Bagatelle(), 0, form, -1, 127, -128);
            x.sheet(1, form, 3);
            due("copy", x.copy(0, 0, 1, 0, 3), 1);
            itemsDue("form " + form, x, 1, form, -1, 127, -128);
            x.lay(0, form, 0, 5);
            due("the copy is its own", x.get(1, form, 0), -1);
        }
    }

    static void promise36All60() {
        Bagatelle x = new Bagatelle();
        x.sheet(0, 1, 60);
        x.sheet(1, 1, 60);
        x.lay(0, 1, 0, 3);
        x.lay(0, 1, 59, 4);
        due("all", x.copy(0, 0, 1, 0, 60), 1);
        due("the first", x.get(1, 1, 0), 3);
        due("the last", x.get(1, 1, 59), 4);
        due("one more", x.copy(0, 0, 1, 0, 61), INDEX);
    }

    static void promise37Balls() {
        bounds("write", args(0, 1), 0, 0, 2);
        bounds(Refused::full, BAD, BAD, "write", args(0, 1), 0, 0, 11);
        refusedWhenNew(BAD, "write", 0, 0);
    }

    static void promise37Sheets0To3() {
        bounds(SheetBounds::allSheets, BAD, BAD, "write", args(0, 0), 1, 0, 3);
    }

    static void promise37ALostSheet() {
        refused(NULL, "write", 0, 0);
        refused(NULL, "write", 2, 0);
    }

    static void promise37BadAheadOfNull() {
        refused(BAD, "write", 3, 0);
        refused(BAD, "write", -1, 0);
        refused(BAD, "write", 3, 4);
    }

    static void promise37AsManyAsThereAre() {
        for (int form = 0; form < FORMS; form++) {
            for (int n : new int[] {0, 1, 2, 23, 24, 25, 59, 60}) {
                Bagatelle x = told("", "", "c5");
                x.sheet(2, form, n);
                due("of " + n + " items", x.write(0, 2), Math.min(n, 24));
                for (int i = 0; i < n; i++) {
                    int row = i < 2 ? NONE : Math.min(i - 2, 8);
                    due("item " + i, x.get(2, form, i), i < 24 ? row : 0);
                }
                due("its size stays", x.lose(2), n);
            }
        }
    }

    static void promise37BehindThe24thItStays() {
        Bagatelle x = told("", "", "a5");
        x.sheet(0, 0, 26);
        x.lay(0, 0, 23, 77);
        x.lay(0, 0, 24, 77);
        x.lay(0, 0, 25, 78);
        due("24 at most", x.write(0, 0), 24);
        due("the last that is written", x.get(0, 0, 23), 8);
        due("the first that is not", x.get(0, 0, 24), 77);
        due("the next one", x.get(0, 0, 25), 78);
    }

    static void promise37NoneInACupInTheGutter() {
        Bagatelle x = told("", "", "a1;b1;c1;x1;x1");
        int[] last = {8, 8, 9, 0, NONE};
        for (int ball = 0; ball < 5; ball++) {
            x.sheet(0, 1, 24);
            due("24", x.write(ball, 0), 24);
            for (int tick = 0; tick < 24; tick++) {
                due("as at() tells", x.get(0, 1, tick), x.at(tick, ball, 0));
            }
            due("the last one", x.get(0, 1, 23), last[ball]);
        }
    }

    static void promise37TheTwelfthBall() {
        Bagatelle x = told("", "", TWELVE_BALLS);
        x.sheet(0, 0, 3);
        due("three", x.write(11, 0), 3);
        itemsDue("b3", x, 0, 0, NONE, 0, 1);
    }

    static void promise37TheOthersStay() {
        Bagatelle x = plain();
        due("three", x.write(0, 1), 3);
        itemsDue("shorts", x, 2, 1, 4, 5, 6, 7);
        itemsDue("ints", x, 3, 2, 8, 9, 10, 11, 12);
        due("balls stay", x.digest(), plain().digest());
    }

    static void promise38What0To8() {
        bounds("count", args(0), 0, 0, 8);
        bounds(Bagatelle::new, BAD, BAD, "count", args(0), 0, 0, 8);
        bounds(Refused::full, BAD, BAD, "count", args(0), 0, 0, 8);
    }

    static void promise38Nothing() {
        int[] counts = {0, 0, 0, 0, 0, 2, 0, 0, 0};
        for (int what = 0; what < 9; what++) {
            due("count " + what, new Bagatelle().count(what), counts[what]);
        }
    }

    static void promise38AsManyAsMayBe() {
        Bagatelle x = full();
        int[] counts = {12, 12, 47 + 9 + 35, 8};
        for (int what = 0; what < counts.length; what++) {
            due("count " + what, x.count(what), counts[what]);
        }
        due("seen", x.count(7), 8);
        due("score", x.count(4), x.sum(0));
        x.room(9);
        due("room", x.count(5), 9);
    }

    static void promise38BytesWithAFault() {
        Bagatelle x = told("00l;", "1x", "y");
        due("pins", x.count(0), 0);
        due("balls", x.count(1), 0);
        due("bytes", x.count(2), 7);
    }

    static void promise38OnTheBoardBehindTick23() {
        due("waits, row 0, row 7", told("", "", "x1;x1;q2").count(6), 2);
        due("a cup, row 7", told("", "", "p1;q1").count(6), 1);
        due("cups, the gutter", told("", "", "a1;b1;c1").count(6), 0);
        due("all twelve", told("", "", "q1;q2;q3;q4;q5;q6;q7;q8;q9;r1;r2;r3").count(6), 12);
        Bagatelle x = told("", "", "a1");
        x.event(2, 20, 0);
        due("was in a cup", x.count(6), 0);
    }

    static void promise38TheLatestFinding() {
        Bagatelle x = new Bagatelle();
        due("none yet", x.count(8), 0);
        x.lose(0);
        due("null", x.count(8), 1);
        x.sheet(0, 0, -1);
        due("size", x.count(8), 5);
        x.sheet(0, 0, 1);
        due("it stays", x.count(8), 5);
        x.get(0, 0, 1);
        due("index", x.count(8), 2);
        x.get(0, 1, 0);
        due("cast", x.count(8), 3);
        x.sheet(1, 1, 1);
        x.copy(0, 0, 1, 0, 1);
        due("store", x.count(8), 4);
        x.read(3);
        due("null", x.count(8), 1);
        x.copy(0, 0, 0, 1, 1);
        due("index", x.count(8), 2);
        x.lay(0, 2, 0, 0);
        due("cast", x.count(8), 3);
        x.lay(2, 2, 0, 0);
        due("null", x.count(8), 1);
    }

    static void promise38OtherRefusalsAreNoFindings() {
        Bagatelle x = new Bagatelle();
        x.sheet(0, 0, 61);
        x.lose(4);
        x.get(4, 0, 0);
        x.undo(0);
        x.back();
        x.type(0, 256);
        x.chance(17, 0, 0);
        due("none yet", x.count(8), 0);
    }

    /** The digest worked out beyond 64 bits, of which the lowest 64 are due. */
    private static BigInteger digestOf(List<Long> terms) {
        BigInteger h = BigInteger.valueOf(17);
        for (long term : terms) {
            h = h.multiply(BigInteger.valueOf(31)).add(BigInteger.valueOf(term));
        }
        return h;
    }

    /** Boards on which each of the terms is now this, now that. */
    private static List<Supplier<Bagatelle>> boards() {
        List<Supplier<Bagatelle>> boards = new ArrayList<>();
        boards.addAll(List.of(Bagatelle::new, Refused::plain, Refused::full, OrderBounds::busy));
        String[][] told = {{"04t;13l;15r;24b;33t;42r", "123454321", "a5;a5;b4;c6;e1;e9;x5"},
            {"73l;75r;44t", "987654321", "a4;a5;a6;d1;h2;m3;r4;w5"},
            {"00t;73r;75l", "909090909", TWELVE_ALIKE}, {"73l", "5", "a4;a5"}, {"00b;70r;72l", "", "a1"}};
        for (String[] board : told) {
            for (int room = 1; room <= 3; room++) {
                int v = room;
                boards.add(() -> withRoom(told(board[0], board[1], board[2]), v));
            }
        }
        return boards;
    }

    private static Bagatelle withRoom(Bagatelle x, int room) {
        x.room(room);
        x.event(2, 9, 4);
        x.event(1, 2, 0);
        x.seen(room, room, 4, 12);
        return x;
    }

    static void promise39AsLongsThatWrap() {
        for (Supplier<Bagatelle> board : boards()) {
            BigInteger h = digestOf(Digests.terms(Digests.each(board)));
            dueTrue("it is beyond a long", h.bitLength() > 64);
            due("digest", board.get().digest(), h.longValue());
        }
    }

    static void promise39OfANewObject() {
        List<Long> terms = new ArrayList<>(List.of(0L, 0L, 0L, 0L, 0L, 2L, 0L, 0L));
        terms.addAll(Collections.nCopies(3 + 72, -1L));
        terms.addAll(Collections.nCopies(27, 0L));
        terms.addAll(List.of(0L, 0L, 0L, 0L, -1L, 0L, 0L, 0L, -1L, 0L, 0L, LOST_OF_SEED_7));
        due("digest", new Bagatelle().digest(), digestOf(terms).longValue());
    }

    static void promise39TheLatestFindingDoesNotCount() {
        Bagatelle x = plain();
        long before = x.digest();
        x.lose(0);
        due("digest", x.digest(), before);
        x.get(1, 2, 0);
        due("digest", x.digest(), before);
    }

    static void promise39SheetsDoNotCount() {
        Bagatelle x = plain();
        long before = x.digest();
        x.lay(1, 0, 0, 9);
        x.lose(2);
        x.sheet(0, 1, 60);
        x.write(0, 3);
        due("digest", x.digest(), before);
    }

    static void promise39ChangesNothing() {
        refused(plain().digest(), "digest");
        refusedWhenNew(new Bagatelle().digest(), "digest");
        refusedWhenFull(full().digest(), "digest");
    }
}
