/** Each promise of the document by answers worked out by hand: ordinary inputs, edges, wrong inputs. */
public final class PromisesTest {
    private static final long NO = -1;
    /** Two packs, five places in a row, a squire and a widow at its ends; no deeds. */
    private static final String ROW = "pack 2 5;pack 1 0;house 0;field 0;edge 1;wood 1;house 1;"
        + "path 0 1 2;path 1 2 3;path 2 3 4;path 3 4 1;squire 0 8 3;widow 4 2 0;snow 0 1 2;";
    /** A ring of four places with a house on each side, and a fifth place that no path leads to. */
    private static final String RING = "pack 0 9;house 0;edge 0;house 0;edge 0;wood 0;"
        + "path 0 1 3;path 1 2 3;path 2 3 3;path 3 0 3;squire 0 40 9;child 2 9 9;right 1;rent 0;";

    private PromisesTest() {
    }

    public static void main(String[] args) {
        newObject();
        feed();
        winter();
        faults();
        exprFaults();
        exprWorth();
        count();
        packPlacePerson();
        farAndRight();
        days();
        payAndGather();
        fullStore();
        lampFavourUndo();
        ways();
        errandsAndReach();
        meetingAskedLodged();
        ahead();
        fairestNeededWood();
        edges();
        tracks();
        looks();
        bargains();
        frosts();
        winters();
        openClosedBreach();
        firsts();
        paidDebtorNeighbour();
        images();
        Told.end();
    }

    private static void due(String what, long want, Told.Call call) {
        Told.due(what, want, call);
    }

    private static void noSuch(String what, Told.Call call) {
        Told.due(what, Told.NO_SUCH, call);
    }

    private static void illegal(String what, Told.Call call) {
        Told.due(what, Told.ILLEGAL, call);
    }

    // ---- 1 to 5

    private static void newObject() {
        WolfDeeds x = new WolfDeeds();
        for (int what = 0; what <= 12; what++) {
            int asked = what;
            due("1: count(" + what + ")", what == 5 ? 1 : 0, () -> x.count(asked));
        }
        noSuch("1: nobody", () -> x.person(0, 0));
        noSuch("1: no places", () -> x.place(0, 0));
        noSuch("1: no packs", () -> x.pack(0, 0));
        due("1: fault", NO, x::fault);
        due("1: none", NO, () -> WolfDeeds.NONE);
        due("1: lasts", 99, x::lasts);
        due("1: days", 30, () -> x.days(30));
    }

    private static void feed() {
        WolfDeeds x = new WolfDeeds();
        for (int i = 1; i <= 35; i++) {
            int bytes = 20 * i;
            due("2: feed", bytes, () -> x.feed(0x736e6f77, 0x20313b20, 0x20202020, 0x20202020, 0x20202020));
        }
        due("2: full", NO, () -> x.feed(0, 0, 0, 0, 0));
        due("2: still 700", 700, () -> x.count(9));
        due("2: highest byte first", 5, () -> x.winter(700));
        due("2: the second snow", 20, x::fault);
        due("2: empty", 0, () -> x.count(9));
        due("2: anew", 20, () -> x.feed(0xff000000, 0, 0, 0, 0));
        due("2: a byte above 127", 1, () -> x.winter(1));
    }

    private static void winter() {
        WolfDeeds x = Told.winter(ROW);
        x.days(3);
        x.track(0, 0);
        x.image();
        Told.feed(x, Told.bytes("pack 0 0;house 0"));
        illegal("3: too many bytes", () -> x.winter(21));
        illegal("3: below 0", () -> x.winter(-1));
        illegal("3: far below 0", () -> x.winter(Integer.MIN_VALUE));
        due("3: nothing changed", 20, () -> x.count(9));
        due("3: the first bytes alone", 1, () -> x.winter(14));
        due("4: where it ends too soon", 14, x::fault);
        due("3: the tape is empty behind a fault", 0, () -> x.count(9));
        due("3: one refused text", 1, () -> x.count(10));
        due("3: all else stays", 3, () -> x.count(4));
        due("3: acts stay", 1, () -> x.count(7));
        due("3: tracks stay", 1, () -> x.count(8));
        due("3: the image stays", 1, () -> Told.flag(x.restore()));
        illegal("3: again too many", () -> x.winter(1));
        due("4: the fault stays", 14, x::fault);
        due("3: an empty text", 0, () -> x.winter(0));
        due("4: none now", NO, x::fault);
        due("3: no packs", 0, () -> x.count(0));
        due("3: the day is anew", 0, () -> x.count(4));
        due("3: acts are gone", 0, () -> x.count(7));
        due("3: nothing to undo", NO, x::undo);
        due("3: tracks are gone", 0, () -> x.count(8));
        due("3: the image is gone", 0, () -> Told.flag(x.restore()));
        due("3: status stays", 1, () -> x.count(10));
    }

    private static void fault(String text, int number, int place) {
        WolfDeeds x = new WolfDeeds();
        due("3: fault of " + text, number, () -> Told.read(x, text));
        due("4: its place in " + text, place, x::fault);
    }

    private static void fine(String text) {
        fault(text, 0, -1);
    }

    private static void faults() {
        fine("pack20 99;house0;house\n0;path1 0 9;child 1 0099 0;snow 0 1 2 3 4 5 6 7 8 9;");
        fine("  \n ");
        fine("pack 0 0;".repeat(4) + "wood 3;".repeat(9));
        fault("packs 1 1;", 1, 0);
        fault("Pack 1 1;", 1, 0);
        fault(" ;", 1, 1);
        fault("7", 1, 0);
        fault("kind", 1, 0);
        fault("pack\t1 1;", 1, 4);
        fault("pack 1;", 1, 6);
        fault("pack 1 1 1;", 1, 9);
        fault("pack 1 1 12345;", 1, 9);
        fault("pack 1 1", 1, 8);
        fault("pack 1 1  ", 1, 10);
        fault("pack 00001 1;", 2, 5);
        fault("pack 0001 100;", 2, 10);
        fault("pack -1 1;", 1, 5);
        fault("pack 0 0;".repeat(5), 2, 36);
        fault("pack 0 0;" + "wood 0;".repeat(10), 2, 72);
        fault("wood 0;pack 0 0;", 3, 5);
        fault("pack 0 0;wood 12345;", 2, 14);
        fault("pack 0 0;wood 9999;", 3, 14);
        fault("pack 0 0;house 0;" + "child 0 0 0;".repeat(7), 2, 89);
        fault("pack 0 0;house 0;child 1 0 0;", 3, 23);
        fault("pack 0 0;edge 0;child 0 0 0;", 6, 22);
        fault("pack 0 0;edge 0;child 1 0 0;", 3, 22);
        fault("pack 0 0;wood 0;wood 0;path 0 1 1;path 0 1 1;", 4, 41);
        fault("pack 0 0;wood 0;wood 0;path 0 0 10;", 4, 30);
        fault("pack 0 0;wood 0;wood 0;path 2 2 1;", 3, 28);
        fault("pack 0 0;wood 0;wood 0;path 0 1 00001;", 2, 32);
        StringBuilder paths = new StringBuilder("pack 0 0;" + "wood 0;".repeat(6));
        for (int one = 0; one < 6; one++) {
            for (int other = 0; other < one; other++) {
                paths.append("path ").append(one).append(' ').append(other).append(" 1;");
            }
        }
        fault(paths.toString(), 2, 9 + 42 + 14 * 11);
        fine(paths.substring(0, 9 + 42 + 14 * 11));
        fault("snow 0 0 0 0 0 0 0 0 0 0 00000;", 2, 25);
        fault("snow 12345;", 2, 5);
        fault("snow 1;snow", 5, 7);
        fault("snow 1 pack;", 1, 7);
    }

    private static void exprFaults() {
        fine("right not not not not not not (not 1);");
        fine("rent (((((1)))));");
        fine("right kind+place+hour+snow+lamp+owes+day;rent lambs+kind+hunger+store+snow+day+owes;");
        fault("rent hour;", 3, 5);
        fault("right hunger;", 3, 6);
        fault("right and;", 3, 6);
        fault("right 1+not 1;", 3, 8);
        fault("right 1<not 1;", 3, 8);
        fault("right pack;", 3, 6);
        fault("right 1 not 1;", 1, 8);
        fault("right 1 2;", 1, 8);
        fault("right 1<2<3;", 1, 9);
        fault("right 1=2<3;", 1, 9);
        fault("right -1;", 1, 6);
        fault("right ();", 1, 7);
        fault("right 1);", 1, 7);
        fault("right (1;", 1, 8);
        fault("right 1+", 1, 8);
        fault("right 1 12345;", 1, 8);
        fault("right 1+12345;", 2, 8);
        fault("rent ((((((xyz", 2, 11);
        fault("rent ((((((not", 2, 11);
        fault("rent ((((((12345", 2, 11);
        fault("rent (((((((", 2, 11);
        fault("rent (((((()", 1, 11);
        fault("rent ((((((+", 1, 11);
        fault("rent ((((((", 1, 11);
        fault("right not not not not not not not", 2, 30);
        fault("rent 1;right 1;rent", 5, 15);
        fault("right 1;rent 1;right", 5, 15);
        fault("right 1&1;", 1, 7);
        fault("right az;", 3, 6);
        fault("right z;", 3, 6);
        fault("right a{;", 3, 6);
        fault("right {;", 1, 6);
        fault("right `;", 1, 6);
        fault("right /;", 1, 6);
        fault("right :;", 1, 6);
        fault("right 9:;", 1, 7);
    }

    private static void rentIs(String expr, int due) {
        WolfDeeds x = Told.winter("pack 3 7;house 0;doctor 0 5 6;snow 4;rent " + expr + ";");
        due("8: rent " + expr, due, () -> x.person(0, 8));
    }

    private static void exprWorth() {
        rentIs("7-2-1", 4);
        rentIs("2+3*4", 14);
        rentIs("20/3/2", 3);
        rentIs("20/3*2", 12);
        rentIs("5/0+1", 1);
        rentIs("(0-7)/2+9", 6);
        rentIs("0-7", 0);
        rentIs("100", 99);
        rentIs("9999*9999*9999*9999", 99);
        rentIs("9999*9999*22<0", 1);
        rentIs("lambs*10+kind", 51);
        rentIs("hunger*10+store", 37);
        rentIs("snow*10+day+owes", 40);
        rentIs("2<3", 1);
        rentIs("3<3", 0);
        rentIs("3=3", 1);
        rentIs("1+1=2", 1);
        rentIs("(1<2)+(2=2)", 2);
        rentIs("not 5", 0);
        rentIs("not not 5", 1);
        rentIs("not 0<1", 0);
        rentIs("7 and 9", 1);
        rentIs("7 and 0", 0);
        rentIs("0 or 9", 1);
        rentIs("1 or 0 and 0", 1);
        rentIs("not 0 and 0", 0);
    }

    // ---- 5 to 10

    private static void count() {
        WolfDeeds x = Told.winter(ROW);
        long[] dues = {2, 5, 4, 2, 0, 0, 10, 0, 0, 0, 0, 0, 0};
        for (int what = 0; what < 13; what++) {
            int asked = what;
            due("5: count(" + what + ")", dues[what], () -> x.count(asked));
        }
        x.gather(0, 0);
        x.lamp(0, false);
        x.track(0, 72);
        Told.read(x, ";");
        Told.read(x, ";");
        Told.read(x, ";");
        due("5: texts refused", 3, () -> x.count(10));
        due("5: acts refused", 2, () -> x.count(11));
        due("5: tracks refused", 1, () -> x.count(12));
        noSuch("5: below", () -> x.count(-1));
        noSuch("5: above", () -> x.count(13));
        x.days(5);
        due("5: the day", 5, () -> x.count(4));
        due("5: its snow", 2, () -> x.count(5));
        due("5: lambs of all", 3, () -> x.count(6));
    }

    private static void packPlacePerson() {
        WolfDeeds x = Told.winter(ROW + "rent 3;");
        int[] pack = {1, 0, 0, 28, 2};
        int[] place = {3, 1, 2, 0};
        int[] person = {2, 4, 2, 0, 0, 0, 0, 0, 3};
        for (int what = 0; what < 9; what++) {
            int asked = what;
            due("6: pack(1, " + what + ")", what < 5 ? pack[what] : Told.NO_SUCH, () -> x.pack(1, asked));
            due("7: place(3, " + what + ")", what < 4 ? place[what] : Told.NO_SUCH, () -> x.place(3, asked));
            due("8: person(1, " + what + ")", person[what], () -> x.person(1, asked));
        }
        due("7: whose home", 2, () -> x.place(4, 3));
        noSuch("6: no such pack", () -> x.pack(2, 0));
        noSuch("6: below", () -> x.pack(-1, 0));
        noSuch("6: what", () -> x.pack(0, -1));
        noSuch("7: no such place", () -> x.place(5, 0));
        noSuch("7: below", () -> x.place(-1, 0));
        noSuch("7: what", () -> x.place(0, -1));
        noSuch("8: no such person", () -> x.person(2, 0));
        noSuch("8: below", () -> x.person(-1, 0));
        noSuch("8: what", () -> x.person(0, 9));
        noSuch("8: what below", () -> x.person(0, -1));
        x.days(3);
        due("6: thin", 1, () -> x.pack(1, 2));
        due("8: owes", 7, () -> x.person(1, 4));
        due("8: cold", 2, () -> x.person(1, 5));
        x.lamp(1, true);
        x.favour(1, 0, true);
        due("8: lamp", 1, () -> x.person(1, 6));
        due("8: favours", 1, () -> x.person(1, 7));
    }

    private static void farAndRight() {
        WolfDeeds x = Told.winter(RING);
        due("9: itself", 0, () -> x.far(4, 4));
        due("9: around", 6, () -> x.far(1, 3));
        due("9: no way", NO, () -> x.far(0, 4));
        noSuch("9: place", () -> x.far(5, 0));
        noSuch("9: other", () -> x.far(0, -1));
        WolfDeeds y = Told.winter(ROW);
        due("10: home at night", 1, () -> Told.flag(y.right(0, 0, 0)));
        int[] hours = {0, 5, 6, 17, 18, 23};
        for (int hour : hours) {
            due("10: without RIGHT at " + hour, hour >= 6 && hour <= 17 ? 1 : 0, () -> Told.flag(y.right(0, 1, hour)));
        }
        noSuch("10: hour", () -> Told.flag(y.right(0, 1, 24)));
        noSuch("10: hour below", () -> Told.flag(y.right(0, 1, -1)));
        noSuch("10: person", () -> Told.flag(y.right(2, 1, 1)));
        noSuch("10: place", () -> Told.flag(y.right(0, 5, 1)));
        y.favour(0, 3, true);
        due("10: by a favour", 1, () -> Told.flag(y.right(0, 3, 0)));
        due("10: his alone", 0, () -> Told.flag(y.right(1, 3, 0)));
        rightBySigns("kind=1 and place=3 and hour=7 and snow=4 and lamp and owes=2 and day=1", 1);
        rightBySigns("0-1", 0);
        rightBySigns("0", 0);
        rightBySigns("2", 1);
    }

    private static void rightBySigns(String expr, int want) {
        WolfDeeds x = Told.winter("pack 0 0;house 0;wood 0;doctor 0 1 9;snow 0 4;rent 3;right " + expr + ";");
        x.days(1);
        x.lamp(0, true);
        due("10: right " + expr, want, () -> Told.flag(x.right(0, 1, 7)));
        due("10: home", 1, () -> Told.flag(x.right(0, 0, 7)));
    }

    // ---- 11 to 16

    private static void days() {
        WolfDeeds x = Told.winter("pack 20 9;house 0;squire 0 99 2;squire 0 20 0;rent store/3;snow 1 1 0;");
        due("11: 0", NO, () -> x.days(0));
        due("11: 31", NO, () -> x.days(31));
        due("11: below", NO, () -> x.days(Integer.MIN_VALUE));
        due("11: far above", NO, () -> x.days(Integer.MAX_VALUE));
        due("11: status", 4, () -> x.count(11));
        due("11: no acts", 0, () -> x.count(7));
        due("11: a day", 1, () -> x.days(1));
        due("11: pays a third of 9", 96, () -> x.person(0, 2));
        due("11: pays a third of 12", 16, () -> x.person(1, 2));
        due("11: thin by 4", 1, () -> x.pack(0, 2));
        due("11: eaten up", 0, () -> x.pack(0, 1));
        due("11: burnt", 1, () -> x.person(0, 3));
        due("11: cold", 1, () -> x.person(1, 5));
        due("11: no act yet more", 1, () -> x.count(7));
        x.days(2);
        due("11: no snow, no fire", 0, () -> x.person(0, 3));
        due("11: cold with snow alone", 2, () -> x.person(1, 5));
        x.days(3);
        due("11: the day", 6, () -> x.count(4));
        due("11: no lambs more yet", 96, () -> x.person(0, 2));
        x.days(1);
        due("11: 99 at most", 99, () -> x.person(0, 2));
        due("11: a quarter more", 20, () -> x.person(1, 2));
        for (int i = 0; i < 33; i++) {
            x.days(30);
        }
        due("11: 997", 997, () -> x.count(4));
        due("11: above 999", NO, () -> x.days(3));
        due("11: 999", 999, () -> x.days(2));
        due("11: above", NO, () -> x.days(1));
        WolfDeeds y = Told.winter("pack 0 99;house 0;child 0 50 0;rent 99;snow 0;");
        for (int i = 0; i < 33; i++) {
            y.days(30);
        }
        due("11: owes 9999 at most", 9999, () -> y.person(0, 4));
        due("25: nobody can owe more", 99, y::lasts);
    }

    private static void payAndGather() {
        WolfDeeds x = Told.winter("pack 0 0;pack 0 5;house 0;squire 0 9 90;rent 10;snow 0;");
        x.days(1);
        due("12: owes", 1, () -> x.person(0, 4));
        noSuch("12: nobody", () -> x.pay(1, 0, 0));
        noSuch("12: no pack", () -> x.pay(0, 2, 0));
        due("12: has none", NO, () -> x.pay(0, 0, 1));
        x.undo();
        due("12: 0", NO, () -> x.pay(0, 0, 0));
        due("12: 100", NO, () -> x.pay(0, 0, 100));
        due("12: more than he has", NO, () -> x.pay(0, 0, 10));
        due("12: status", 4, () -> x.count(11));
        due("12: pays", 5, () -> x.pay(0, 1, 4));
        due("12: to the pack", 9, () -> x.pack(1, 1));
        due("12: all", 0, () -> x.pay(0, 0, 5));
        noSuch("13: nobody", () -> x.gather(1, 0));
        due("13: 0", NO, () -> x.gather(0, 0));
        due("13: 100", NO, () -> x.gather(0, 100));
        due("13: status", 6, () -> x.count(11));
        due("13: some", 95, () -> x.gather(0, 5));
        WolfDeeds y = Told.winter("pack 0 98;house 0;squire 0 99 0;");
        due("12: 99 lambs", 0, () -> y.pay(0, 0, 99));
        due("12: all for the pack", 197, () -> y.pack(0, 1));
        due("13: 99 wood", 99, () -> y.gather(0, 99));
        due("13: 99 at most", 99, () -> x.gather(0, 99));
    }

    /** Twelve lambs a day are more than the hunger, and the lambs grow again: the store comes to its limit. */
    private static void fullStore() {
        WolfDeeds x = Told.winter("pack 0 99;house 0;" + "child 0 99 0;".repeat(6) + "rent 2;");
        for (int i = 0; i < 27; i++) {
            x.days(30);
        }
        due("11: not full yet", 9819, () -> x.pack(0, 1));
        due("12: but by one's lambs", 2, () -> x.pay(0, 0, 87));
        due("12: 9906 then", 9906, () -> x.pack(0, 1));
        x.undo();
        x.days(30);
        due("11: 9999 at most", 9999, () -> x.pack(0, 1));
        due("12: pays all the same", 1, () -> x.pay(0, 0, x.person(0, 2) - 1));
        due("12: 9999 at most", 9999, () -> x.pack(0, 1));
        due("43: paid beyond the limit", 11, () -> x.paid(1));
    }

    private static void lampFavourUndo() {
        WolfDeeds x = Told.winter(ROW);
        due("14: out already", 0, () -> Told.flag(x.lamp(0, false)));
        due("14: lit", 1, () -> Told.flag(x.lamp(0, true)));
        due("14: lit already", 0, () -> Told.flag(x.lamp(0, true)));
        due("14: put out", 1, () -> Told.flag(x.lamp(0, false)));
        noSuch("14: nobody", () -> Told.flag(x.lamp(2, true)));
        due("15: none to take", 0, () -> Told.flag(x.favour(0, 1, false)));
        due("15: granted", 1, () -> Told.flag(x.favour(0, 1, true)));
        due("15: another", 1, () -> Told.flag(x.favour(0, 4, true)));
        due("15: granted already", 0, () -> Told.flag(x.favour(0, 4, true)));
        due("15: taken back", 1, () -> Told.flag(x.favour(0, 1, false)));
        due("15: the other stays", 16, () -> x.person(0, 7));
        noSuch("15: nobody", () -> Told.flag(x.favour(2, 0, true)));
        noSuch("15: no place", () -> Told.flag(x.favour(0, 5, true)));
        due("14, 15: status", 4, () -> x.count(11));
        due("16: acts", 5, () -> x.count(7));
        x.gather(1, 7);
        x.pay(0, 1, 2);
        x.days(9);
        due("16: days", 7, x::undo);
        due("16: the day", 0, () -> x.count(4));
        due("16: lambs", 6, () -> x.person(0, 2));
        due("16: pay", 6, x::undo);
        due("16: store", 0, () -> x.pack(1, 1));
        due("16: wood", 5, x::undo);
        due("16: none", 0, () -> x.person(1, 3));
        due("16: favour", 4, x::undo);
        due("16: both", 18, () -> x.person(0, 7));
        for (int i = 3; i >= 0; i--) {
            int left = i;
            due("16: undo", left, x::undo);
        }
        due("16: no more", NO, x::undo);
        due("16: no refusal", 4, () -> x.count(11));
        for (int i = 0; i < 45; i++) {
            x.days(1);
        }
        due("16: 40 are kept", 40, () -> x.count(7));
        for (int i = 39; i >= 0; i--) {
            int left = i;
            due("16: undo of 40", left, x::undo);
        }
        due("16: the oldest are gone", NO, x::undo);
        due("16: day 5", 5, () -> x.count(4));
    }

    // ---- 17 to 22

    private static void ways() {
        WolfDeeds x = Told.winter(ROW);
        due("17: by day", 11, () -> x.way(0, 2, 6));
        due("17: waits for the morning", 30, () -> x.way(0, 2, 15));
        due("17: home", 23, () -> x.way(0, 0, 23));
        due("17: his home by right at night", 23, () -> x.way(1, 4, 23));
        noSuch("17: nobody", () -> x.way(2, 0, 99));
        noSuch("17: no place", () -> x.way(0, 5, 99));
        illegal("17: 24", () -> x.way(0, 0, 24));
        illegal("17: below", () -> x.way(0, 0, -1));
        WolfDeeds y = Told.winter("pack 0 0;house 0;" + "wood 0;".repeat(4) + "path 0 1 1;path 1 2 1;path 2 3 1;path 3 4 1;child 0 9 9;"
            + "right hour=23;");
        due("17: HOUR 95 is one", 95, () -> y.way(0, 4, 0));
        due("17: a day later each", 95, () -> y.way(0, 3, 23));
        due("17: 119 is none", NO, () -> y.way(0, 4, 23));
        WolfDeeds z = Told.winter("pack 0 0;house 0;wood 0;wood 0;path 0 1 1;path 0 2 9;path 1 2 1;child 0 9 9;right (place=3)*(hour=8 or hour=9);");
        due("17: the long path waits less", 9, () -> z.way(0, 2, 0));
        due("17: comes when right is", 8, () -> z.way(0, 1, 3));
        WolfDeeds n = Told.winter(RING);
        due("17: no way", NO, () -> n.way(0, 4, 0));
    }

    private static void errandsAndReach() {
        WolfDeeds x = Told.winter(RING);
        due("18: around", 17, () -> x.errands(0, 14, 5));
        due("18: there and back", 11, () -> x.errands(0, 2, 5));
        due("18: two sides", 17, () -> x.errands(0, 10, 5));
        due("18: none", 5, () -> x.errands(0, 0, 5));
        due("18: home alone", 5, () -> x.errands(0, 1, 5));
        due("18: no path there", NO, () -> x.errands(0, 16, 5));
        noSuch("18: nobody", () -> x.errands(2, 99, 99));
        illegal("18: no such place", () -> x.errands(0, 32, 5));
        illegal("18: below", () -> x.errands(0, -1, 5));
        illegal("18: hour", () -> x.errands(0, 1, 24));
        illegal("18: hour below", () -> x.errands(0, 1, -1));
        WolfDeeds y = Told.winter("pack 0 0;house 0;wood 0;wood 0;path 0 1 1;path 1 2 1;child 0 9 9;right hour=23;");
        due("18: 95 is one", 72, () -> y.errands(0, 4, 0));
        WolfDeeds z = Told.winter("pack 0 0;house 0;wood 0;wood 0;wood 0;path 0 1 1;path 1 2 1;path 2 3 1;child 0 9 9;right hour=23;");
        due("18: none up to 95", NO, () -> z.errands(0, 8, 0));
        WolfDeeds w = Told.winter(ROW);
        due("19: so far", 7, () -> w.reach(0, 6, 5));
        due("19: an hour less", 3, () -> w.reach(0, 6, 4));
        due("19: no hours", 1, () -> w.reach(0, 6, 0));
        due("19: all", 31, () -> w.reach(1, 0, 48));
        noSuch("19: nobody", () -> w.reach(-1, 99, 99));
        illegal("19: hour", () -> w.reach(0, 24, 1));
        illegal("19: hour below", () -> w.reach(0, -1, 1));
        illegal("19: hours", () -> w.reach(0, 0, 49));
        illegal("19: hours below", () -> w.reach(0, 0, -1));
    }

    private static void meetingAskedLodged() {
        WolfDeeds x = Told.winter(RING);
        due("20: of like ones the least", 1, () -> x.meeting(0, 1, 4, 0));
        due("20: when", 7, () -> x.meeting(0, 1, 4, 1));
        noSuch("20: one", () -> x.meeting(2, 0, 4, 0));
        noSuch("20: other", () -> x.meeting(0, 2, 4, 0));
        noSuch("20: what, ahead of all else", () -> x.meeting(0, 0, 99, 2));
        illegal("20: both are one", () -> x.meeting(0, 0, 4, 0));
        illegal("20: hour", () -> x.meeting(0, 1, 24, 0));
        illegal("20: hour below", () -> x.meeting(0, 1, -1, 0));
        WolfDeeds y = Told.winter("pack 0 0;house 0;house 0;child 0 1 1;child 1 1 1;child 0 1 1;");
        due("20: none", NO, () -> y.meeting(0, 1, 4, 0));
        due("20: no hour", NO, () -> y.meeting(0, 1, 4, 1));
        due("20: one home", 4, () -> y.meeting(0, 2, 4, 1));
        WolfDeeds z = Told.winter(ROW);
        due("21: by day", 0, () -> z.asked(0, 4, 6));
        due("21: by night", 4, () -> z.asked(0, 4, 18));
        z.favour(0, 2, true);
        due("21: one less", 3, () -> z.asked(0, 4, 18));
        due("21: none on the way", 1, () -> z.asked(0, 2, 18));
        noSuch("21: hour", () -> z.asked(0, 4, 24));
        noSuch("21: hour below", () -> z.asked(0, 4, -1));
        noSuch("21: nobody", () -> z.asked(2, 4, 1));
        noSuch("21: no place", () -> z.asked(0, 5, 1));
        due("21: no paths", NO, () -> x.asked(0, 4, 1));
        WolfDeeds d = Told.winter("pack 0 0;house 0;wood 0;wood 0;edge 0;edge 0;path 0 1 1;path 1 2 1;path 0 3 1;path 3 4 1;path 4 2 1;"
            + "child 0 1 1;right place=2;");
        due("21: the longer way asks less", 1, () -> d.asked(0, 2, 0));
        due("22: of like ones the least", 0, () -> x.lodged(1));
        due("22: itself", 2, () -> x.lodged(2));
        due("22: none", NO, () -> x.lodged(4));
        due("22: the nearer one", 4, () -> z.lodged(3));
        noSuch("22: no place", () -> x.lodged(5));
    }

    // ---- 23 to 29

    private static void ahead() {
        WolfDeeds x = Told.winter(ROW);
        due("23: lambs", 5, () -> x.then(0, 3, 0));
        due("23: wood", 1, () -> x.then(0, 3, 1));
        due("23: owes", 1, () -> x.then(1, 3, 2));
        due("23: cold", 2, () -> x.then(1, 3, 3));
        due("23: a quarter more", 1, () -> x.then(0, 7, 0));
        due("23: no days", 8, () -> x.then(0, 0, 0));
        noSuch("23: nobody", () -> x.then(2, 100, 0));
        noSuch("23: what", () -> x.then(0, 100, 4));
        noSuch("23: what below", () -> x.then(0, 100, -1));
        illegal("23: 100", () -> x.then(0, 100, 0));
        illegal("23: below", () -> x.then(0, -1, 0));
        due("24: store", 2, () -> x.packThen(0, 3, 0));
        due("24: thin", 1, () -> x.packThen(1, 3, 1));
        noSuch("24: no pack", () -> x.packThen(2, 100, 0));
        noSuch("24: what", () -> x.packThen(0, 100, 2));
        illegal("24: 100", () -> x.packThen(0, 100, 0));
        illegal("24: below", () -> x.packThen(0, -1, 0));
        due("23, 24: nothing changed", 0, () -> x.count(4));
        x.days(3);
        due("23: cold of these days alone", 1, () -> x.then(1, 2, 3));
        due("24: thin of these days alone", 2, () -> x.packThen(1, 2, 1));
        WolfDeeds y = Told.winter("pack 1 99;house 0;child 0 9 50;rent 0;");
        due("25: wood for 50", 50, y::lasts);
        y.gather(0, 99);
        due("25: 99 at most", 99, y::lasts);
        WolfDeeds z = Told.winter("pack 1 30;house 0;child 0 9 90;rent 0;");
        due("25: store for 30", 30, z::lasts);
        WolfDeeds w = Told.winter("pack 0 30;house 0;child 0 9 90;rent 2;");
        due("25: lambs for 4 days", 4, w::lasts);
        w.days(5);
        due("25: owes more at once", 0, w::lasts);
        due("25: 99 days ahead of 999", 99, () -> Told.winter("pack 0 0;").lasts());
    }

    private static void fairestNeededWood() {
        WolfDeeds x = Told.winter("pack 9 0;house 0;child 0 99 0;child 0 99 0;rent 0;");
        due("26: half of nine, up", 5, () -> x.fairest(1));
        due("26: at the most", 5, () -> x.fairest(20));
        due("26: no days", 0, () -> x.fairest(0));
        illegal("26: 100", () -> x.fairest(100));
        illegal("26: below", () -> x.fairest(-1));
        WolfDeeds y = Told.winter("pack 20 0;house 0;child 0 99 0;");
        due("26: 20 is one", 20, () -> y.fairest(4));
        due("26: they have no more", NO, () -> y.fairest(5));
        WolfDeeds z = Told.winter("pack 2 0;pack 3 9;house 0;house 1;child 0 9 9;child 0 9 9;child 1 9 9;rent 2;");
        due("27: nobody", 0, () -> z.needed(0));
        due("27: either pays enough", 0, () -> z.needed(1));
        due("27: the last by the ninth day", 4, () -> z.needed(4));
        illegal("27: 100", () -> z.needed(100));
        illegal("27: below", () -> z.needed(-1));
        WolfDeeds w = Told.winter(ROW);
        due("28: six snowy days", 3, () -> w.wood(0, 9));
        due("28: enough", 0, () -> w.wood(0, 4));
        due("28: above", 66, () -> w.wood(1, 99));
        noSuch("28: nobody", () -> w.wood(2, 100));
        illegal("28: 100", () -> w.wood(0, 100));
        illegal("28: below", () -> w.wood(0, -1));
        WolfDeeds v = Told.winter("pack 0 0;house 0;child 0 0 0;");
        due("28: snow without", 99, () -> v.wood(0, 99));
    }

    private static void edges() {
        WolfDeeds x = Told.winter(RING);
        due("29: of like ones the least", 1, () -> x.edge(0, 0));
        noSuch("29: nobody", () -> x.edge(2, 99));
        illegal("29: 24", () -> x.edge(0, 24));
        illegal("29: below", () -> x.edge(0, -1));
        WolfDeeds y = Told.winter("pack 0 0;house 0;edge 0;edge 0;path 0 1 5;path 0 2 2;child 0 0 0;");
        due("29: the nearer one", 2, () -> y.edge(0, 7));
        due("29: both at 6", 1, () -> y.edge(0, 20));
        WolfDeeds z = Told.winter("pack 0 0;house 0;edge 0;path 0 1 5;child 0 0 0;right 0;");
        due("29: none", NO, () -> z.edge(0, 0));
        z.favour(0, 1, true);
        due("29: by a favour", 1, () -> z.edge(0, 0));
    }

    // ---- 30 to 37

    private static void tracks() {
        WolfDeeds x = Told.winter(ROW);
        noSuch("30: no place, ahead", () -> x.track(5, 99));
        due("30: 72", NO, () -> x.track(0, 72));
        due("30: below", NO, () -> x.track(0, -1));
        due("30: status", 2, () -> x.count(12));
        due("32: all", 3, x::suspects);
        due("30: at 10", 1, () -> x.track(4, 10));
        due("32: both can", 3, x::suspects);
        due("30: at 9", 2, () -> x.track(3, 9));
        due("32: on the way", 3, x::suspects);
        due("30: at 8", 3, () -> x.track(3, 8));
        due("32: too early", 2, x::suspects);
        due("33: the third as told is the first by hours", 2, () -> x.alibi(0));
        due("33: none", NO, () -> x.alibi(1));
        due("30: at 10 too", 4, () -> x.track(3, 10));
        due("32: at two places in one hour", 0, x::suspects);
        due("33: the later told one", 3, () -> x.alibi(1));
        noSuch("33: nobody", () -> x.alibi(2));
        due("30: five", 5, () -> x.track(0, 71));
        due("30: six", 6, () -> x.track(0, 0));
        due("30: no seven", NO, () -> x.track(0, 0));
        due("30: status", 3, () -> x.count(12));
        due("33: at home in hour 0", 5, () -> x.alibi(1));
        x.forget();
        due("31: forgotten", 0, () -> x.count(8));
        due("31: all again", 3, x::suspects);
        due("30: anew", 1, () -> x.track(1, 2));
        due("32: whoever's right it is, just in time", 1, x::suspects);
        WolfDeeds y = Told.winter(RING);
        y.track(4, 71);
        due("32: no way", 0, y::suspects);
        due("33: no way", 0, () -> y.alibi(0));
    }

    private static void looks() {
        WolfDeeds x = Told.winter("pack 0 0;house 0;house 0;wood 0;wood 0;path 0 1 2;path 1 2 3;path 2 3 4;child 0 0 0;child 0 0 0;child 1 0 0;child 1 0 0;");
        due("34: hour 0 parts evenly at home", 0, () -> x.look(0));
        due("34: hour 2 by the wood no one", 0, () -> x.look(2));
        due("34: hour 3", 2, () -> x.look(3));
        due("34: hour 7", 3, () -> x.look(7));
        due("34: all alike", 0, () -> x.look(71));
        illegal("34: 72", () -> x.look(72));
        illegal("34: below", () -> x.look(-1));
        due("34: leaves no track", 0, () -> x.count(8));
        for (int i = 0; i < 6; i++) {
            x.track(1, 20);
        }
        due("34: with six tracks", 2, () -> x.look(3));
        due("34: still six", 6, () -> x.count(8));
        due("34: no places", NO, () -> new WolfDeeds().look(0));
        illegal("34: no places, wrong hour", () -> new WolfDeeds().look(72));
    }

    private static void bargains() {
        WolfDeeds x = Told.winter("pack 5 4;pack 5 5;house 0;child 0 9 9;");
        int[] lambs = {1, 9, 10, 99};
        for (int many : lambs) {
            for (int pack = 0; pack < 2; pack++) {
                int its = pack;
                due("35: one rests, " + many, 1, () -> x.bargain(0, its, many, 0));
                due("35: neither gives, " + many, 0, () -> x.bargain(0, its, many, 1));
            }
        }
        noSuch("35: nobody", () -> x.bargain(1, 0, 0, 0));
        noSuch("35: no pack", () -> x.bargain(0, 2, 0, 0));
        noSuch("35: what", () -> x.bargain(0, 0, 0, 2));
        illegal("35: 0", () -> x.bargain(0, 0, 0, 0));
        illegal("35: 100", () -> x.bargain(0, 0, 100, 0));
    }

    private static void frosts() {
        WolfDeeds x = new WolfDeeds();
        long[][] dues = {{5, 1, 1, 1, 2}, {5, 3, 2, 1, 2}, {1, 9, 9, 1, 1000000000}, {3, 9, 0, 1, 1}, {3, 2, 1, 51, 100}, {10, 9, 9, 1, 1},
            {0, 9, 0, 1, 1}, {0, 9, 1, 0, 1}, {7, 3, 4, 0, 1}, {9, 9, 9, 387420489, 1000000000}};
        for (long[] d : dues) {
            due("36: upper of " + d[0] + " " + d[1] + " " + d[2], d[3], () -> x.frosts((int) d[0], (int) d[1], (int) d[2], 0));
            due("36: lower of " + d[0] + " " + d[1] + " " + d[2], d[4], () -> x.frosts((int) d[0], (int) d[1], (int) d[2], 1));
        }
        noSuch("36: what, ahead", () -> x.frosts(11, 0, 10, 2));
        noSuch("36: what below", () -> x.frosts(1, 1, 1, -1));
        illegal("36: tenths", () -> x.frosts(11, 1, 1, 0));
        illegal("36: tenths below", () -> x.frosts(-1, 1, 1, 0));
        illegal("36: no days", () -> x.frosts(1, 0, 1, 0));
        illegal("36: days", () -> x.frosts(1, 10, 1, 0));
        illegal("36: many", () -> x.frosts(1, 1, 10, 0));
        illegal("36: many below", () -> x.frosts(1, 1, -1, 0));
    }

    /** By seed 1 the draws are 16838, 5758, 10113, 17515, 31051, 5627: SNOW 8, PACK 0, no turn; 5, 1, 2. */
    private static void winters() {
        WolfDeeds x = Told.winter("pack 1 0;pack 0 0;house 0;house 1;child 0 9 1;child 1 8 9;rent snow*(kind=3);");
        due("37: lambs behind a day with 8 of snow", 1, () -> x.winters(1, 1, 2));
        due("37: not cold", 0, () -> x.winters(1, 1, 0));
        due("37: not thin", 0, () -> x.winters(1, 1, 1));
        due("37: the second day has snow 5", 0, () -> x.winters(1, 2, 2));
        due("37: cold by then", 1, () -> x.winters(1, 2, 0));
        due("37: no days", 17, () -> x.winters(1, 0, 2));
        due("37: nothing changed", 0, () -> x.count(4));
        noSuch("37: what, ahead", () -> x.winters(1, 61, 3));
        noSuch("37: what below", () -> x.winters(1, 1, -1));
        illegal("37: 61", () -> x.winters(1, 61, 0));
        illegal("37: below", () -> x.winters(1, -1, 0));
        due("37: without packs", 0, () -> new WolfDeeds().winters(7, 60, 0));
    }

    // ---- 38 to 47

    private static void openClosedBreach() {
        WolfDeeds x = Told.winter(ROW + "right 21<hour;");
        due("38: home", 24, () -> x.open(0, 0));
        due("38: two hours", 2, () -> x.open(0, 1));
        noSuch("38: nobody", () -> x.open(2, 0));
        noSuch("38: no place", () -> x.open(0, 5));
        due("39: none", 0, x::closed);
        WolfDeeds y = Told.winter(ROW + "right 0;");
        due("38: no hour", 0, () -> y.open(0, 1));
        due("39: but the homes", 14, y::closed);
        y.favour(1, 2, true);
        due("39: nor by a favour", 10, y::closed);
        due("39: all without people", 3, () -> Told.winter("pack 0 0;house 0;wood 0;").closed());
        due("40: the first of them", 1, () -> y.breach(0, 4, 8));
        due("40: home", NO, () -> y.breach(0, 0, 8));
        due("40: comes in the twenty-second", 1, () -> x.breach(0, 4, 19));
        due("40: then in the first", 2, () -> x.breach(0, 4, 20));
        due("40: hours of the next day", 3, () -> Told.winter(ROW + "right 21<hour or hour<3;").breach(0, 4, 20));
        noSuch("40: nobody", () -> x.breach(2, 0, 99));
        noSuch("40: no place", () -> x.breach(0, 5, 99));
        illegal("40: 24", () -> x.breach(0, 0, 24));
        illegal("40: below", () -> x.breach(0, 0, -1));
        WolfDeeds z = Told.winter(RING);
        due("40: no way", -2, () -> z.breach(0, 4, 0));
        WolfDeeds w = Told.winter(RING.replace("right 1", "right place=0"));
        due("40: by the least place", 1, () -> w.breach(0, 2, 0));
        WolfDeeds v = Told.winter("pack 0 0;house 0;wood 0;edge 0;edge 0;path 0 1 1;path 1 3 2;path 0 2 1;path 2 3 1;child 0 0 0;right place=3;");
        due("40: the shorter way first", 2, () -> v.breach(0, 3, 0));
    }

    private static void firsts() {
        WolfDeeds x = Told.winter("pack 1 2;pack 1 2;house 0;child 0 9 3;child 0 9 1;child 0 9 1;rent 0;snow 1 0;");
        due("41: behind three days", 3, () -> x.firstCold(0));
        due("41: the least", 1, () -> x.firstCold(1));
        due("42: behind three days", 3, () -> x.firstThin(0));
        due("42: the least", 0, () -> x.firstThin(1));
        x.days(3);
        due("41: from now on", 2, () -> x.firstCold(0));
        due("42: from now on", 1, () -> x.firstThin(0));
        noSuch("41: what", () -> x.firstCold(2));
        noSuch("41: what below", () -> x.firstCold(-1));
        noSuch("42: what", () -> x.firstThin(2));
        noSuch("42: what below", () -> x.firstThin(-1));
        WolfDeeds y = Told.winter("pack 1 99;pack 1 98;house 0;child 0 0 99;child 0 0 98;rent 0;");
        due("41: the 99th", 99, () -> y.firstCold(0));
        due("41: the second", 1, () -> y.firstCold(1));
        due("42: the 99th", 99, () -> y.firstThin(0));
        due("42: the second", 1, () -> y.firstThin(1));
        WolfDeeds z = Told.winter("pack 1 99;house 0;child 0 0 99;rent 0;");
        due("41: none", NO, () -> z.firstCold(0));
        due("41: nobody", NO, () -> z.firstCold(1));
        due("42: none", NO, () -> z.firstThin(0));
        due("42: no pack", NO, () -> z.firstThin(1));
    }

    private static void paidDebtorNeighbour() {
        WolfDeeds x = Told.winter(ROW);
        due("43: none", 0, () -> x.paid(0));
        due("43: as many as they have", 5, () -> x.paid(3));
        due("43: the first more than the second", 9, () -> x.paid(7));
        illegal("43: 100", () -> x.paid(100));
        illegal("43: below", () -> x.paid(-1));
        due("44: none", NO, x::debtor);
        x.days(4);
        due("44: the widow", 1, x::debtor);
        WolfDeeds y = Told.winter("pack 0 0;house 0;child 0 1 9;child 0 0 9;child 0 0 9;");
        y.days(1);
        due("44: of like ones the least", 1, y::debtor);
        due("45: of one home the least", 1, () -> y.neighbour(0));
        due("45: not himself", 0, () -> y.neighbour(2));
        due("45: far away", 0, () -> x.neighbour(1));
        noSuch("45: nobody", () -> x.neighbour(2));
        WolfDeeds z = Told.winter("pack 0 0;house 0;house 0;house 0;path 0 1 9;path 1 2 8;child 0 0 0;child 2 0 0;child 1 0 0;");
        due("45: the nearer", 2, () -> z.neighbour(0));
        due("45: the nearer of both", 1, () -> z.neighbour(2));
        WolfDeeds w = Told.winter("pack 0 0;house 0;house 0;child 0 0 0;child 1 0 0;");
        due("45: no way", NO, () -> w.neighbour(0));
    }

    private static void images() {
        WolfDeeds x = Told.winter(ROW);
        due("47: none", 0, () -> Told.flag(x.restore()));
        x.lamp(0, true);
        x.favour(0, 3, true);
        x.days(2);
        x.track(2, 2);
        x.image();
        x.days(5);
        x.lamp(0, false);
        x.favour(0, 3, false);
        x.gather(1, 9);
        x.pay(0, 1, 1);
        x.forget();
        x.track(1, 1);
        x.track(0, 1);
        x.days(99);
        due("47: back", 1, () -> Told.flag(x.restore()));
        int[] person = {0, 0, 6, 2, 0, 0, 1, 8};
        for (int what = 0; what < 8; what++) {
            int asked = what;
            due("47: person(0, " + what + ")", person[what], () -> x.person(0, asked));
        }
        due("47: the day", 2, () -> x.count(4));
        due("47: cold", 1, () -> x.person(1, 5));
        due("47: store", 3, () -> x.pack(0, 1));
        due("47: thin", 0, () -> x.pack(1, 2));
        due("47: acts", 3, () -> x.count(7));
        due("47: tracks", 1, () -> x.count(8));
        due("47: the track", 0, () -> x.alibi(0));
        due("47: status stays", 1, () -> x.count(11));
        due("47: acts as they were", 2, x::undo);
        due("47: undone", 0, () -> x.count(4));
        due("47: once more", 1, () -> Told.flag(x.restore()));
        due("47: the day again", 2, () -> x.count(4));
        x.days(1);
        x.image();
        x.undo();
        due("46: in place of the other", 1, () -> Told.flag(x.restore()));
        due("46: the later one", 3, () -> x.count(4));
        Told.read(x, "pack");
        due("47: stays behind a fault", 1, () -> Told.flag(x.restore()));
        Told.read(x, ROW);
        due("47: gone with a winter", 0, () -> Told.flag(x.restore()));
    }
}
