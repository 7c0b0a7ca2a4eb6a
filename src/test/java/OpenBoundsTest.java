/** What is open, who comes first, the image: promises 38 to 47 and the Terms' fifth row, at each boundary that a sentence names. */
public final class OpenBoundsTest {
    private static final long NO = -1;
    private static final int[] NO_INDEX = {-1, Integer.MIN_VALUE, Integer.MAX_VALUE, 32};
    private static final int[] NO_DAYS = {-1, 100, Integer.MIN_VALUE, Integer.MAX_VALUE};
    /** A house and a wood, an hour apart, and a wood that no path leads to. */
    private static final String SMALL = "pack 0 9;house 0;wood 0;wood 0;path 0 1 1;squire 0 9 9;";

    private OpenBoundsTest() {
    }

    public static void main(String[] args) {
        openBounds();
        openHours();
        closedBounds();
        breachBounds();
        breachWithoutWaiting();
        breachOfLikeOnes();
        firstColdBounds();
        firstThinBounds();
        paidBounds();
        debtorBounds();
        neighbourBounds();
        restoreWithoutImage();
        imageKeepsAll();
        imageKeepsActs();
        imageKeepsTracks();
        imageInPlaceOfAnother();
        imageAndWinters();
        wintersOneAfterAnother();
        manyCalls();
        Told.end();
    }

    private static void due(String what, long want, Told.Call call) {
        Told.due(what, want, call);
    }

    // ---- 38, 39: OPEN, CLOSED

    private static void openBounds() {
        WolfDeeds x = Told.winter(SMALL);
        for (int index : NO_INDEX) {
            Told.noSuch("38: no PERSON " + index, x, () -> x.open(index, 0));
            Told.noSuch("38: no PLACE " + index, x, () -> x.open(0, index));
        }
        Told.noSuch("38: no PERSON 1", x, () -> x.open(1, 0));
        Told.noSuch("38: no PLACE 3", x, () -> x.open(0, 3));
        Told.unchanged("38: HOME", x, 24, () -> x.open(0, 0));
        Told.unchanged("38: without RIGHT", x, 12, () -> x.open(0, 1));
        Told.unchanged("38: without PATHS, too", x, 12, () -> x.open(0, 2));
        x.favour(0, 2, true);
        due("38: by a FAVOUR", 24, () -> x.open(0, 2));
        x.favour(0, 2, false);
        due("38: without it again", 12, () -> x.open(0, 2));
    }

    private static void openHours() {
        String[] rights = {"0", "1", "hour=0", "hour=23", "hour", "hour<23", "0-1", "hour-22", "snow=1 and day=0", "lamp"};
        int[] hours = {0, 24, 1, 1, 23, 23, 0, 1, 24, 0};
        for (int i = 0; i < rights.length; i++) {
            int many = hours[i];
            WolfDeeds x = Told.winter(SMALL + "right " + rights[i] + ";");
            due("38: by RIGHT " + rights[i], many, () -> x.open(0, 1));
            due("38: HOME by RIGHT " + rights[i], 24, () -> x.open(0, 0));
            due("39: by RIGHT " + rights[i], many == 0 ? 6 : 0, x::closed);
        }
        WolfDeeds y = Told.winter(SMALL + "right day=0 or lamp;");
        y.days(1);
        due("38: the DAY as it is", 0, () -> y.open(0, 1));
        y.lamp(0, true);
        due("38: with a LAMP", 24, () -> y.open(0, 1));
    }

    private static void closedBounds() {
        WolfDeeds none = new WolfDeeds();
        Told.unchanged("39: no PLACES", none, 0, none::closed);
        WolfDeeds nobody = Told.winter("pack 0 0;" + "house 0;".repeat(9));
        Told.unchanged("39: nobody, all nine", nobody, 511, nobody::closed);
        String nine = "pack 0 0;house 0;" + "wood 0;".repeat(7) + "house 0;child 8 0 0;doctor 8 0 0;";
        WolfDeeds x = Told.winter(nine + "right 0;");
        Told.unchanged("39: all but the HOME", x, 255, x::closed);
        x.favour(1, 0, true);
        due("39: nor by a FAVOUR of one", 254, x::closed);
        WolfDeeds y = Told.winter(nine + "right kind=1 and place=3 and hour=23;");
        due("39: one of them in one hour", 1, y::closed);
        WolfDeeds z = Told.winter(nine);
        due("39: without RIGHT", 0, z::closed);
        WolfDeeds w = Told.winter("pack 0 0;house 0;house 0;child 1 0 0;right 0;");
        due("39: one's HOME alone", 1, w::closed);
    }

    // ---- 40: A BREACH

    private static void breachBounds() {
        WolfDeeds x = Told.winter(SMALL + "right hour=0;");
        for (int index : NO_INDEX) {
            Told.noSuch("40: no PERSON " + index, x, () -> x.breach(index, 0, 0));
            Told.noSuch("40: no PLACE " + index, x, () -> x.breach(0, index, 0));
        }
        Told.noSuch("40: no PERSON 1, ahead", x, () -> x.breach(1, 0, 24));
        Told.noSuch("40: no PLACE 3, ahead", x, () -> x.breach(0, 3, -1));
        int[] hours = {-1, 24, Integer.MIN_VALUE, Integer.MAX_VALUE};
        for (int hour : hours) {
            Told.illegal("40: HOUR " + hour, x, () -> x.breach(0, 1, hour));
            Told.illegal("40: no way, HOUR " + hour, x, () -> x.breach(0, 2, hour));
        }
        Told.unchanged("40: at HOME", x, NO, () -> x.breach(0, 0, 12));
        Told.unchanged("40: no way", x, -2, () -> x.breach(0, 2, 0));
        Told.unchanged("40: comes in hour 1", x, 1, () -> x.breach(0, 1, 0));
        Told.unchanged("40: comes in HOUR 24", x, NO, () -> x.breach(0, 1, 23));
        x.favour(0, 1, true);
        due("40: by a FAVOUR", NO, () -> x.breach(0, 1, 0));
        x.favour(0, 2, true);
        due("40: a FAVOUR makes no way", -2, () -> x.breach(0, 2, 0));
    }

    private static void breachWithoutWaiting() {
        String row = "pack 0 0;house 0;wood 0;house 0;edge 0;path 0 1 2;path 1 2 3;path 2 3 4;child 0 0 0;widow 2 0 0;";
        WolfDeeds x = Told.winter(row);
        due("40: all by day", NO, () -> x.breach(0, 3, 8));
        due("40: in hour 17", NO, () -> x.breach(0, 3, 8));
        due("40: the last in hour 18", 3, () -> x.breach(0, 3, 9));
        due("40: the second in hour 18", 2, () -> x.breach(0, 3, 13));
        due("40: the first in hour 5", 1, () -> x.breach(0, 3, 3));
        due("40: the first in hour 6", NO, () -> x.breach(0, 3, 4));
        due("40: back to another's HOME", 0, () -> x.breach(1, 0, 13));
        due("40: from his own, not from PLACE 0", 1, () -> x.breach(1, 1, 16));
        WolfDeeds y = Told.winter(row + "right hour<3 or hour=20;");
        due("40: HOURS 20, 23", 2, () -> y.breach(0, 3, 18));
        WolfDeeds z = Told.winter(row + "right hour<6 or hour=23;");
        due("40: HOURS 23, 26, 30", 3, () -> z.breach(0, 3, 21));
        due("40: HOURS 24, 27", NO, () -> z.breach(0, 2, 22));
        StringBuilder text = new StringBuilder("pack 0 0;house 0;" + "wood 0;".repeat(7) + "edge 0;child 0 0 0;right not (place=2 and hour=23);");
        for (int i = 0; i < 8; i++) {
            text.append("path ").append(i).append(' ').append(i + 1).append(" 9;");
        }
        WolfDeeds w = Told.winter(text.toString());
        due("40: in HOUR 95", 8, () -> w.breach(0, 8, 23));
        due("40: in HOUR 94", NO, () -> w.breach(0, 8, 22));
    }

    private static void breachOfLikeOnes() {
        String text = "pack 0 0;house 0;field 0;field 0;wood 0;wood 0;field 0;path 0 1 1;path 0 2 1;path 2 3 1;path 1 4 1;path 3 5 1;path 4 5 1;"
            + "child 0 0 0;right place=1;";
        WolfDeeds x = Told.winter(text);
        due("40: the first step by the least", 4, () -> x.breach(0, 5, 0));
        WolfDeeds y = Told.winter(text.replace("path 4 5 1", "path 4 5 2"));
        due("40: but the shortest way", 3, () -> y.breach(0, 5, 0));
        WolfDeeds z = Told.winter("pack 0 0;house 0;field 0;wood 0;wood 0;field 0;path 0 1 2;path 1 3 1;path 1 2 1;path 2 4 1;path 3 4 1;child 0 0 0;"
            + "right place=1;");
        due("40: the second step by the least", 2, () -> z.breach(0, 4, 0));
        WolfDeeds nine = Told.winter("pack 0 0;" + "house 0;".repeat(9) + "path 0 8 3;path 1 2 3;child 1 0 0;");
        due("40: by the PATHS of this PLACE", 2, () -> nine.breach(0, 2, 20));
        due("40: not by another's", -2, () -> nine.breach(0, 8, 20));
    }

    // ---- 41, 42: THE FIRST COLD, THE FIRST THIN

    private static void firstColdIs(String text, long days, long who) {
        WolfDeeds x = Told.winter("pack 0 0;house 0;" + text + "rent 0;");
        Told.unchanged("41: DAYS, " + text, x, days, () -> x.firstCold(0));
        Told.unchanged("41: who, " + text, x, who, () -> x.firstCold(1));
    }

    private static void firstColdBounds() {
        WolfDeeds x = Told.winter(SMALL);
        int[] whats = {-1, 2, Integer.MIN_VALUE, Integer.MAX_VALUE};
        for (int what : whats) {
            Told.noSuch("41: what " + what, x, () -> x.firstCold(what));
            Told.noSuch("42: what " + what, x, () -> x.firstThin(what));
        }
        firstColdIs("", NO, NO);
        firstColdIs("child 0 0 0;", 1, 0);
        firstColdIs("child 0 0 98;", 99, 0);
        firstColdIs("child 0 0 99;", NO, NO);
        firstColdIs("child 0 0 99;child 0 0 98;", 99, 1);
        firstColdIs("child 0 0 7;child 0 0 7;", 8, 0);
        firstColdIs("child 0 0 9;child 0 0 7;child 0 0 7;", 8, 1);
        firstColdIs("child 0 0 9;child 0 0 9;child 0 0 9;child 0 0 9;child 0 0 9;child 0 0 0;", 1, 5);
        firstColdIs("child 0 0 0;snow 0;", NO, NO);
        firstColdIs("child 0 0 0;snow 0 0 1;", 3, 0);
        WolfDeeds y = Told.winter("pack 0 0;house 0;child 0 0 0;child 0 0 3;rent 0;snow 1 0;");
        y.days(1);
        y.gather(0, 50);
        due("41: from now on", 6, () -> y.firstCold(0));
        due("41: another one", 1, () -> y.firstCold(1));
    }

    private static void firstThinIs(String text, long days, long which) {
        WolfDeeds x = Told.winter(text);
        Told.unchanged("42: DAYS, " + text, x, days, () -> x.firstThin(0));
        Told.unchanged("42: which, " + text, x, which, () -> x.firstThin(1));
    }

    private static void firstThinBounds() {
        firstThinIs("", NO, NO);
        firstThinIs("pack 0 0;", NO, NO);
        firstThinIs("pack 1 0;", 1, 0);
        firstThinIs("pack 1 98;", 99, 0);
        firstThinIs("pack 1 99;", NO, NO);
        firstThinIs("pack 1 99;pack 1 98;", 99, 1);
        firstThinIs("pack 2 4;pack 3 8;", 3, 0);
        firstThinIs("pack 2 6;pack 3 8;pack 1 2;", 3, 1);
        firstThinIs("pack 0 0;pack 0 0;pack 0 0;pack 20 99;", 5, 3);
        WolfDeeds y = Told.winter("pack 9 0;pack 1 3;house 0;child 0 9 9;rent 9*(day=1);");
        y.days(1);
        due("42: from now on", 2, () -> y.firstThin(0));
        due("42: the same one again", 0, () -> y.firstThin(1));
    }

    // ---- 43 to 45: PAID, THE DEBTOR, A NEIGHBOUR

    private static void paidIs(String text, int days, int want) {
        WolfDeeds x = Told.winter("pack 9 0;house 0;" + text);
        Told.unchanged("43: in " + days + " by " + text, x, want, () -> x.paid(days));
    }

    private static void paidBounds() {
        WolfDeeds x = Told.winter(SMALL);
        for (int days : NO_DAYS) {
            Told.illegal("43: " + days + " DAYS", x, () -> x.paid(days));
        }
        paidIs("", 99, 0);
        paidIs("child 0 99 0;rent 99;", 0, 0);
        paidIs("child 0 99 0;rent 99;", 1, 99);
        paidIs("child 0 99 0;rent 100;", 99, 99);
        paidIs("child 0 99 0;rent 0-1;", 99, 0);
        paidIs("child 0 3 0;", 2, 2);
        paidIs("child 0 3 0;", 3, 3);
        paidIs("child 0 3 0;", 99, 3);
        paidIs("child 0 3 0;child 0 0 0;child 0 5 0;", 4, 7);
        paidIs("child 0 10 0;", 7, 7);
        paidIs("child 0 11 0;", 99, 12);
        WolfDeeds y = Told.winter(SMALL);
        y.pay(0, 0, 4);
        y.days(2);
        due("43: from now on, as rent alone", 3, () -> y.paid(9));
    }

    private static void debtorBounds() {
        WolfDeeds none = new WolfDeeds();
        Told.unchanged("44: nobody", none, NO, none::debtor);
        WolfDeeds x = Told.winter("pack 0 0;house 0;child 0 3 0;child 0 2 0;child 0 2 0;child 0 1 0;rent 2+(kind=3 and day=2);");
        Told.unchanged("44: nobody OWES anything", x, NO, x::debtor);
        x.days(1);
        Told.unchanged("44: who OWES one", x, 3, x::debtor);
        x.days(1);
        due("44: who OWES three", 3, x::debtor);
        x.undo();
        x.undo();
        due("44: nobody again", NO, x::debtor);
        WolfDeeds y = Told.winter("pack 0 0;house 0;child 0 1 0;child 0 0 0;child 0 0 0;rent 1;");
        y.days(1);
        due("44: of like ones the least", 1, y::debtor);
        y.days(1);
        due("44: of two and two", 1, y::debtor);
        WolfDeeds z = Told.winter("pack 0 0;house 0;" + "child 0 9 0;".repeat(5) + "child 0 0 0;rent 99;");
        z.days(30);
        due("44: the last", 5, z::debtor);
        for (int i = 0; i < 4; i++) {
            z.days(30);
        }
        due("44: all 9999", 0, z::debtor);
    }

    private static void neighbourBounds() {
        WolfDeeds x = Told.winter(SMALL);
        for (int index : NO_INDEX) {
            Told.noSuch("45: no PERSON " + index, x, () -> x.neighbour(index));
        }
        Told.noSuch("45: no PERSON 1", x, () -> x.neighbour(1));
        Told.unchanged("45: no other one", x, NO, () -> x.neighbour(0));
        WolfDeeds y = Told.winter("pack 0 0;house 0;house 0;house 0;house 0;path 0 1 3;path 0 2 3;"
            + "child 0 0 0;child 1 0 0;child 2 0 0;child 3 0 0;child 2 0 0;right 0;");
        Told.unchanged("45: of like ones the least", y, 1, () -> y.neighbour(0));
        Told.unchanged("45: by the shortest way", y, 0, () -> y.neighbour(1));
        Told.unchanged("45: of one HOME", y, 4, () -> y.neighbour(2));
        Told.unchanged("45: nor himself", y, 2, () -> y.neighbour(4));
        Told.unchanged("45: none without PATHS", y, NO, () -> y.neighbour(3));
        WolfDeeds z = Told.winter("pack 0 0;house 0;wood 0;house 0;house 0;path 0 2 9;path 0 1 1;path 1 3 1;child 0 0 0;child 2 0 0;child 3 0 0;");
        due("45: by two short PATHS", 2, () -> z.neighbour(0));
    }

    // ---- 46, 47: the image

    private static void restoreWithoutImage() {
        WolfDeeds x = new WolfDeeds();
        Told.unchanged("47: a new object has none", x, 0, () -> Told.flag(x.restore()));
        WolfDeeds y = Told.winter(SMALL);
        y.days(1);
        Told.unchanged("47: nor a winter", y, 0, () -> Told.flag(y.restore()));
        WolfDeeds z = new WolfDeeds();
        z.days(3);
        z.image();
        z.days(4);
        due("47: without PEOPLE", 1, () -> Told.flag(z.restore()));
        due("47: the DAY", 3, () -> z.count(4));
    }

    private static WolfDeeds busy() {
        WolfDeeds x = Told.winter("pack 9 9;pack 1 0;house 0;wood 0;house 1;path 0 1 1;child 0 50 2;widow 2 1 9;snow 3;right 1;rent 2;");
        x.lamp(0, true);
        x.favour(1, 1, true);
        x.favour(1, 0, true);
        x.days(4);
        x.track(1, 5);
        return x;
    }

    private static void changeAll(WolfDeeds x) {
        x.lamp(0, false);
        x.lamp(1, true);
        x.favour(1, 1, false);
        x.favour(0, 2, true);
        x.gather(0, 9);
        x.pay(0, 1, 3);
        x.days(9);
        x.forget();
        x.track(2, 60);
        x.track(0, 0);
    }

    private static void imageKeepsAll() {
        WolfDeeds x = busy();
        String before = Told.portrait(x);
        x.image();
        Told.same("46: an image changes nothing", before, Told.portrait(x));
        for (int times = 0; times < 3; times++) {
            changeAll(x);
            due("47: changed", 0, () -> Told.flag(before.equals(Told.portrait(x))));
            due("47: they are as the image", 1, () -> Told.flag(x.restore()));
            Told.same("47: again", before, Told.portrait(x));
        }
        x.days(0);
        x.track(0, 72);
        Told.read(x, "pock");
        x.feed(0, 0, 0, 0, 0);
        due("47: restored", 1, () -> Told.flag(x.restore()));
        due("47: STATUS isn't", 3, () -> x.count(10) + x.count(11) + x.count(12));
        due("47: the tape isn't", 20, () -> x.count(9));
        due("47: the FAULT isn't", 0, x::fault);
        due("47: restoring is no ACT", 4, () -> x.count(7));
    }

    private static void imageKeepsActs() {
        WolfDeeds x = Told.winter(SMALL);
        x.gather(0, 1);
        x.gather(0, 2);
        x.gather(0, 3);
        x.image();
        for (int i = 0; i < 3; i++) {
            x.undo();
        }
        for (int i = 0; i < 45; i++) {
            x.days(1);
        }
        due("47: restored", 1, () -> Told.flag(x.restore()));
        long[] wood = {12, 10, 9};
        for (int i = 0; i < 3; i++) {
            int left = 2 - i;
            due("47: ACTS of then", left, x::undo);
            due("47: WOOD of then", wood[i], () -> x.person(0, 3));
        }
        due("47: no more", NO, x::undo);
        due("47: once more", 1, () -> Told.flag(x.restore()));
        due("47: all three", 3, () -> x.count(7));
        WolfDeeds y = Told.winter(SMALL);
        for (int i = 0; i < 41; i++) {
            y.gather(0, 1);
        }
        y.image();
        for (int i = 0; i < 7; i++) {
            y.lamp(0, i % 2 == 0);
        }
        y.restore();
        for (int i = 39; i >= 0; i--) {
            int left = i;
            due("47: of 41, undo", left, y::undo);
            due("47: of 41, WOOD", 10 + left, () -> y.person(0, 3));
        }
        due("47: the first isn't kept", NO, y::undo);
    }

    private static void imageKeepsTracks() {
        WolfDeeds x = Told.winter("pack 0 9;house 0;wood 0;wood 0;path 0 1 2;path 1 2 3;child 0 9 9;");
        x.track(1, 30);
        x.track(2, 20);
        x.track(1, 18);
        x.image();
        x.forget();
        for (int i = 0; i < 6; i++) {
            x.track(0, 0);
        }
        due("33: he can", NO, () -> x.alibi(0));
        x.restore();
        due("47: three TRACKS", 3, () -> x.count(8));
        due("47: their PLACES and HOURS", 1, () -> x.alibi(0));
        x.forget();
        x.image();
        x.track(0, 0);
        x.restore();
        due("47: none", 0, () -> x.count(8));
    }

    private static void imageInPlaceOfAnother() {
        WolfDeeds x = Told.winter(SMALL);
        x.days(1);
        x.image();
        x.days(1);
        x.image();
        x.days(1);
        due("47: the later image", 1, () -> Told.flag(x.restore()));
        due("46: in place of the other", 2, () -> x.count(4));
        x.undo();
        x.undo();
        due("47: of a DAY that was undone", 1, () -> Told.flag(x.restore()));
        due("47: is kept", 2, () -> x.count(4));
    }

    private static void imageAndWinters() {
        WolfDeeds x = busy();
        x.image();
        String before = Told.portrait(x);
        Told.read(x, "pack 0 0;house 0;child 0 1 1;;");
        changeAll(x);
        due("3: a FAULT leaves the image", 1, () -> Told.flag(x.restore()));
        Told.same("47: as it was", before, Told.portrait(x));
        Told.read(x, SMALL);
        Told.unchanged("3: a winter takes it", x, 0, () -> Told.flag(x.restore()));
    }

    /** The land that a winter leaves is used for a later one: nothing of it may stay. */
    private static void wintersOneAfterAnother() {
        String great = "pack 9 9;pack 8 8;house 1;house 0;wood 1;edge 0;path 0 1 9;path 1 2 8;path 2 3 7;child 1 50 2;widow 0 7 9;child 0 1 1;"
            + "snow 3 4;right 1;rent 2;";
        WolfDeeds x = new WolfDeeds();
        String none = Told.portrait(x);
        String[] texts = {great, great, SMALL, great, "pack 1 1;wood 0;house 0;child 1 3 3;", great, great, ""};
        for (String text : texts) {
            due("3: one of many", 0, () -> Told.read(x, text));
            Told.same("3: as if it were the first, " + text, Told.portrait(Told.winter(text)), Told.portrait(x));
            due("3: a faulty one behind it", 1, () -> Told.read(x, great + "pack 1 1;wood 0;house 2;path"));
            Told.same("3: all else stays, " + text, Told.portrait(Told.winter(text)), Told.portrait(x));
        }
        Told.same("3: an empty one at last", none, Told.portrait(x));
        Told.read(x, great);
        Told.read(x, great);
        Told.read(x, SMALL);
        due("9: no PATH of another winter", NO, () -> x.far(1, 2));
        due("10: no RIGHT of another winter", 0, () -> Told.flag(x.right(0, 1, 5)));
        due("8: no RENT of another winter", 1, () -> x.person(0, 8));
        WolfDeeds y = new WolfDeeds();
        Told.read(y, SMALL + "rent not 1+2;right not 1+2;");
        Told.read(y, SMALL + "rent not 3;right not 3;");
        Told.read(y, SMALL + "rent 7;right 7;");
        due("8: a shorter RENT", 7, () -> y.person(0, 8));
        due("10: a shorter RIGHT", 1, () -> Told.flag(y.right(0, 1, 0)));
        Told.read(y, SMALL + "rent 6;right 6;");
        due("8: and the next one", 6, () -> y.person(0, 8));
        due("10: and the next one", 1, () -> Told.flag(y.right(0, 1, 0)));
    }

    private static void manyCalls() {
        WolfDeeds x = Told.winter(SMALL);
        for (int i = 0; i < 150; i++) {
            x.days(3);
            x.days(99);
            x.undo();
        }
        due("5: 150 refusals", 150, () -> x.count(11));
        due("5: DAY 0", 0, () -> x.count(4));
    }
}
