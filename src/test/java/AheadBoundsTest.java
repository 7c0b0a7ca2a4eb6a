/** Ways and DAYS ahead: promises 17 to 29 and the Terms' third row, sentence by sentence, at each boundary that it names. */
public final class AheadBoundsTest {
    private static final long NO = -1;
    private static final int[] NO_INDEX = {-1, Integer.MIN_VALUE, Integer.MAX_VALUE, 32};
    private static final int[] NO_HOUR = {-1, 24, Integer.MIN_VALUE, Integer.MAX_VALUE};
    private static final int[] NO_DAYS = {-1, 100, Integer.MIN_VALUE, Integer.MAX_VALUE};
    /** A house and a wood, an hour apart, and a wood that no path leads to. */
    private static final String SMALL = "pack 0 9;house 0;wood 0;wood 0;path 0 1 1;squire 0 9 9;";
    /** Four places around, three hours from each to the next; people at home in the first and the third. */
    private static final String RING = "pack 0 9;house 0;edge 0;house 0;edge 0;path 0 1 3;path 1 2 3;path 2 3 3;path 3 0 3;"
        + "squire 0 9 9;child 2 9 9;right 1;";

    private AheadBoundsTest() {
    }

    public static void main(String[] args) {
        wayBounds();
        wayUpTo95();
        wayByHoursOfTheDay();
        wayWaits();
        errandsBounds();
        errandsUpTo95();
        errandsInAnyOrder();
        reachBounds();
        reachWithin();
        meetingBounds();
        meetingUpTo95();
        meetingOfLikeOnes();
        askedBounds();
        askedFewest();
        lodgedBounds();
        thenBounds();
        packThenBounds();
        lastsBounds();
        fairestBounds();
        neededBounds();
        woodBounds();
        edgeBounds();
        edgeUpTo95();
        Told.end();
    }

    private static void due(String what, long want, Told.Call call) {
        Told.due(what, want, call);
    }

    /** Nine places in a row, nine hours from each to the next, the last of a kind; a squire at home in the first. */
    private static String row(String last) {
        StringBuilder text = new StringBuilder("pack 0 9;house 0;" + "wood 0;".repeat(7) + last + " 0;squire 0 9 9;");
        for (int i = 0; i < 8; i++) {
            text.append("path ").append(i).append(' ').append(i + 1).append(" 9;");
        }
        return text.toString();
    }

    // ---- 17: THE WAY

    private static void wayBounds() {
        WolfDeeds x = Told.winter(SMALL + "right 1;");
        for (int index : NO_INDEX) {
            Told.noSuch("17: no PERSON " + index, x, () -> x.way(index, 0, 0));
            Told.noSuch("17: no PLACE " + index, x, () -> x.way(0, index, 0));
        }
        Told.noSuch("17: no PERSON 1, ahead", x, () -> x.way(1, 0, 24));
        Told.noSuch("17: no PLACE 3, ahead", x, () -> x.way(0, 3, -1));
        for (int hour : NO_HOUR) {
            Told.illegal("17: HOUR " + hour, x, () -> x.way(0, 1, hour));
        }
        Told.unchanged("17: at HOME in HOUR 0", x, 0, () -> x.way(0, 0, 0));
        Told.unchanged("17: at HOME in HOUR 23", x, 23, () -> x.way(0, 0, 23));
        Told.unchanged("17: from HOUR 0", x, 1, () -> x.way(0, 1, 0));
        Told.unchanged("17: from HOUR 23", x, 24, () -> x.way(0, 1, 23));
        Told.unchanged("17: no PATHS", x, NO, () -> x.way(0, 2, 0));
    }

    private static void wayUpTo95() {
        WolfDeeds x = Told.winter(row("edge") + "right 1;");
        due("17: all the row", 72, () -> x.way(0, 8, 0));
        due("17: HOUR 95 is one", 95, () -> x.way(0, 8, 23));
        WolfDeeds y = Told.winter(row("edge") + "right not (place=2 and hour=23);");
        due("17: HOUR 94", 94, () -> y.way(0, 8, 22));
        due("17: HOUR 96 is none", NO, () -> y.way(0, 8, 23));
        due("17: the one ahead of it", 86, () -> y.way(0, 7, 23));
        WolfDeeds z = Told.winter(SMALL + "right 0;");
        due("17: never", NO, () -> z.way(0, 1, 12));
        due("17: but at HOME", 12, () -> z.way(0, 0, 12));
    }

    private static void wayByHoursOfTheDay() {
        WolfDeeds x = Told.winter(SMALL + "right hour=0;");
        long[] dues = {24, 24, 24};
        int[] hours = {0, 22, 23};
        for (int i = 0; i < 3; i++) {
            int hour = hours[i];
            due("17: hour 0 is HOUR 24, from " + hour, dues[i], () -> x.way(0, 1, hour));
        }
        WolfDeeds y = Told.winter(SMALL + "right hour=23;");
        due("17: HOUR 23 from 22", 23, () -> y.way(0, 1, 22));
        due("17: HOUR 47 from 23", 47, () -> y.way(0, 1, 23));
        WolfDeeds z = Told.winter(SMALL);
        due("17: without RIGHT from 4", 6, () -> z.way(0, 1, 4));
        due("17: without RIGHT from 16", 17, () -> z.way(0, 1, 16));
        due("17: without RIGHT from 17", 30, () -> z.way(0, 1, 17));
        WolfDeeds w = Told.winter(SMALL + "right day=0 and hour=1;");
        due("17: on the DAY as it is, tomorrow too", 25, () -> w.way(0, 1, 1));
        w.days(1);
        due("17: and no more", NO, () -> w.way(0, 1, 1));
    }

    private static void wayWaits() {
        WolfDeeds x = Told.winter("pack 0 9;house 0;field 0;edge 0;path 0 1 1;path 1 2 1;child 0 9 9;right place=1 and hour=1 or place=2 and hour=5;");
        due("17: waits where he has no RIGHT any more", 5, () -> x.way(0, 2, 0));
        due("17: till tomorrow", 29, () -> x.way(0, 2, 1));
        WolfDeeds z = Told.winter("pack 0 9;house 0;wood 0;wood 0;edge 0;path 0 1 1;path 0 2 5;path 1 2 1;path 2 3 1;child 0 9 9;right 1;");
        due("17: by three PATHS sooner than by two", 3, () -> z.way(0, 3, 0));
        WolfDeeds y = Told.winter("pack 0 9;house 0;house 0;edge 0;path 0 1 1;path 1 2 1;child 0 9 9;child 1 9 9;right place=2;");
        due("17: not through another's HOME", NO, () -> y.way(0, 2, 0));
        due("17: from his own", 1, () -> y.way(1, 2, 0));
        y.favour(0, 1, true);
        due("17: by a FAVOUR", 2, () -> y.way(0, 2, 0));
    }

    // ---- 18: ERRANDS

    private static void errandsBounds() {
        WolfDeeds x = Told.winter(SMALL + "right 1;");
        for (int index : NO_INDEX) {
            Told.noSuch("18: no PERSON " + index, x, () -> x.errands(index, 0, 0));
        }
        Told.noSuch("18: no PERSON 1, ahead", x, () -> x.errands(1, 8, 24));
        int[] places = {-1, 8, 9, 512, Integer.MIN_VALUE, Integer.MAX_VALUE};
        for (int set : places) {
            Told.illegal("18: PLACES " + set, x, () -> x.errands(0, set, 0));
        }
        for (int hour : NO_HOUR) {
            Told.illegal("18: HOUR " + hour, x, () -> x.errands(0, 1, hour));
        }
        Told.unchanged("18: no PLACES", x, 23, () -> x.errands(0, 0, 23));
        Told.unchanged("18: HOME alone", x, 0, () -> x.errands(0, 1, 0));
        Told.unchanged("18: there and HOME", x, 2, () -> x.errands(0, 2, 0));
        Told.unchanged("18: with HOME", x, 25, () -> x.errands(0, 3, 23));
        Told.unchanged("18: all, one without PATHS", x, NO, () -> x.errands(0, 7, 0));
    }

    private static void errandsUpTo95() {
        String text = "pack 0 9;house 0;" + "wood 0;".repeat(5) + "path 0 1 9;path 1 2 9;path 2 3 9;path 3 4 9;path 4 5 1;squire 0 9 9;right 1;";
        WolfDeeds x = Told.winter(text);
        due("18: 72 HOURS from 23", 95, () -> x.errands(0, 16, 23));
        due("18: 74 HOURS from 21", 95, () -> x.errands(0, 32, 21));
        due("18: 74 HOURS from 22", NO, () -> x.errands(0, 32, 22));
        due("18: all on the way", 95, () -> x.errands(0, 63, 21));
        WolfDeeds y = Told.winter(row("wood") + "right 1;");
        due("18: there, but not HOME again", NO, () -> y.errands(0, 256, 0));
        due("18: all nine", NO, () -> y.errands(0, 511, 0));
        WolfDeeds z = Told.winter("pack 0 9;house 0;" + "wood 0;".repeat(8) + "squire 0 9 9;right 1;path 0 1 1;path 0 2 2;path 0 3 3;path 0 4 4;"
            + "path 0 5 5;path 0 6 6;path 0 7 7;path 0 8 8;");
        due("18: a star of nine", 72, () -> z.errands(0, 511, 0));
        due("18: a star of nine from 23", 95, () -> z.errands(0, 511, 23));
    }

    private static void errandsInAnyOrder() {
        WolfDeeds x = Told.winter("pack 0 9;house 0;field 0;edge 0;path 0 1 1;path 0 2 1;child 0 9 9;right place=1 and hour=3 or place=2 and hour=1;");
        due("18: the later told first", 4, () -> x.errands(0, 6, 0));
        due("18: from HOUR 1 they wait for tomorrow", 26, () -> x.errands(0, 6, 1));
        WolfDeeds y = Told.winter(RING);
        due("18: around", 12, () -> y.errands(0, 14, 0));
        due("18: HOME in between", 12, () -> y.errands(0, 10, 0));
        due("18: through one that isn't told", 12, () -> y.errands(0, 4, 0));
    }

    // ---- 19: REACH

    private static void reachBounds() {
        WolfDeeds x = Told.winter(SMALL + "right 1;");
        for (int index : NO_INDEX) {
            Told.noSuch("19: no PERSON " + index, x, () -> x.reach(index, 0, 0));
        }
        Told.noSuch("19: no PERSON 1, ahead", x, () -> x.reach(1, 24, 49));
        for (int hour : NO_HOUR) {
            Told.illegal("19: HOUR " + hour, x, () -> x.reach(0, hour, 0));
        }
        int[] hours = {-1, 49, Integer.MIN_VALUE, Integer.MAX_VALUE};
        for (int many : hours) {
            Told.illegal("19: " + many + " HOURS", x, () -> x.reach(0, 0, many));
        }
        Told.unchanged("19: no HOURS", x, 1, () -> x.reach(0, 0, 0));
        Told.unchanged("19: one HOUR", x, 3, () -> x.reach(0, 23, 1));
        Told.unchanged("19: 48 HOURS, but no PATHS", x, 3, () -> x.reach(0, 0, 48));
    }

    private static void reachWithin() {
        WolfDeeds x = Told.winter(row("wood") + "right 1;");
        int[] hours = {0, 8, 9, 17, 18, 44, 45, 47, 48};
        long[] dues = {1, 1, 3, 3, 7, 31, 63, 63, 63};
        for (int i = 0; i < hours.length; i++) {
            int many = hours[i];
            due("19: within " + many, dues[i], () -> x.reach(0, 0, many));
            due("19: from HOUR 23 within " + many, dues[i], () -> x.reach(0, 23, many));
        }
        WolfDeeds z = Told.winter(RING);
        due("19: HOME alone, the third", 4, () -> z.reach(1, 5, 2));
        due("19: from the third", 14, () -> z.reach(1, 5, 5));
        due("19: all from the third", 15, () -> z.reach(1, 5, 6));
        WolfDeeds y = Told.winter(SMALL + "right hour=0;");
        due("19: HOUR 24 within 24", 3, () -> y.reach(0, 0, 24));
        due("19: HOUR 24 within 23", 1, () -> y.reach(0, 0, 23));
        due("19: HOUR 24 from 23", 3, () -> y.reach(0, 23, 1));
        due("19: HOUR 24 from 22", 1, () -> y.reach(0, 22, 1));
    }

    // ---- 20: A MEETING

    private static void meetingBounds() {
        WolfDeeds x = Told.winter(RING);
        for (int index : NO_INDEX) {
            Told.noSuch("20: no PERSON " + index, x, () -> x.meeting(index, 0, 0, 0));
            Told.noSuch("20: no other " + index, x, () -> x.meeting(0, index, 0, 0));
            Told.noSuch("20: what " + index, x, () -> x.meeting(0, 1, 0, index));
        }
        Told.noSuch("20: no PERSON 2, ahead", x, () -> x.meeting(2, 2, 24, 0));
        Told.noSuch("20: no other 2, ahead", x, () -> x.meeting(0, 2, 24, 0));
        Told.noSuch("20: what 2, ahead", x, () -> x.meeting(1, 1, 24, 2));
        Told.illegal("20: both are 0", x, () -> x.meeting(0, 0, 0, 0));
        Told.illegal("20: both are 1", x, () -> x.meeting(1, 1, 0, 1));
        for (int hour : NO_HOUR) {
            Told.illegal("20: HOUR " + hour, x, () -> x.meeting(0, 1, hour, 0));
        }
        Told.unchanged("20: from HOUR 0", x, 3, () -> x.meeting(0, 1, 0, 1));
        Told.unchanged("20: from HOUR 23", x, 26, () -> x.meeting(1, 0, 23, 1));
    }

    private static void meetingUpTo95() {
        WolfDeeds x = Told.winter(row("house") + "doctor 8 9 9;right kind=0 and not (place=0 and hour=23);");
        due("20: HOUR 94", 94, () -> x.meeting(0, 1, 22, 1));
        due("20: its PLACE", 8, () -> x.meeting(0, 1, 22, 0));
        due("20: the other one first", 8, () -> x.meeting(1, 0, 22, 0));
        due("20: HOUR 96 is none", NO, () -> x.meeting(0, 1, 23, 1));
        due("20: nor a PLACE", NO, () -> x.meeting(0, 1, 23, 0));
        WolfDeeds y = Told.winter(row("house") + "doctor 8 9 9;right kind=0;");
        due("20: HOUR 95 is one", 95, () -> y.meeting(0, 1, 23, 1));
        due("20: its PLACE in 95", 8, () -> y.meeting(0, 1, 23, 0));
    }

    private static void meetingOfLikeOnes() {
        WolfDeeds x = Told.winter(RING);
        due("20: the least of two", 1, () -> x.meeting(0, 1, 7, 0));
        due("20: when", 10, () -> x.meeting(0, 1, 7, 1));
        WolfDeeds y = Told.winter("pack 0 9;wood 0;house 0;house 0;path 1 0 3;path 2 0 3;path 1 2 3;child 1 9 9;child 2 9 9;child 2 9 9;right 1;");
        due("20: the least of three", 0, () -> y.meeting(0, 1, 0, 0));
        due("20: of one HOME at once", 2, () -> y.meeting(1, 2, 23, 0));
        due("20: in the HOUR in which they go", 23, () -> y.meeting(1, 2, 23, 1));
        WolfDeeds z = Told.winter("pack 0 9;house 0;house 0;child 0 9 9;child 1 9 9;right 1;");
        due("20: none without PATHS", NO, () -> z.meeting(0, 1, 0, 0));
        due("20: no HOUR either", NO, () -> z.meeting(0, 1, 0, 1));
        WolfDeeds w = Told.winter("pack 0 9;house 0;house 0;path 0 1 1;child 0 9 9;child 1 9 9;right 0;");
        due("20: none without RIGHT", NO, () -> w.meeting(0, 1, 0, 0));
        w.favour(1, 0, true);
        due("20: by one's FAVOUR", 0, () -> w.meeting(0, 1, 0, 0));
    }

    // ---- 21, 22: ASKED, LODGED

    private static void askedBounds() {
        WolfDeeds x = Told.winter(SMALL + "right 0;");
        for (int index : NO_INDEX) {
            Told.noSuch("21: no PERSON " + index, x, () -> x.asked(index, 0, 0));
            Told.noSuch("21: no PLACE " + index, x, () -> x.asked(0, index, 0));
        }
        for (int hour : NO_HOUR) {
            Told.noSuch("21: hour " + hour, x, () -> x.asked(0, 1, hour));
        }
        Told.noSuch("21: no PERSON 1", x, () -> x.asked(1, 0, 0));
        Told.noSuch("21: no PLACE 3", x, () -> x.asked(0, 3, 0));
        Told.unchanged("21: HOME", x, 0, () -> x.asked(0, 0, 0));
        Told.unchanged("21: one", x, 1, () -> x.asked(0, 1, 23));
        Told.unchanged("21: no PATHS to it", x, NO, () -> x.asked(0, 2, 0));
        x.favour(0, 2, true);
        due("21: a FAVOUR makes no PATHS", NO, () -> x.asked(0, 2, 0));
    }

    private static void askedFewest() {
        WolfDeeds x = Told.winter(row("wood") + "right hour=23;");
        due("21: all of them", 8, () -> x.asked(0, 8, 22));
        due("21: none in hour 23", 0, () -> x.asked(0, 8, 23));
        due("21: none but the ones on the way", 3, () -> x.asked(0, 3, 0));
        for (int place = 1; place <= 8; place++) {
            int left = 8 - place;
            x.favour(0, place, true);
            due("21: more than he has", left, () -> x.asked(0, 8, 0));
        }
        WolfDeeds z = Told.winter(row("house") + "child 8 0 0;right 0;");
        for (int place = 0; place <= 8; place++) {
            int to = place;
            due("21: from the other end to " + place, 8 - place, () -> z.asked(1, to, 5));
        }
        WolfDeeds y = Told.winter("pack 0 0;house 0;wood 0;edge 0;edge 0;path 0 1 1;path 0 2 9;path 2 3 9;path 3 1 9;child 0 0 0;right place=2;");
        due("21: the PLACE itself is asked for", 1, () -> y.asked(0, 1, 0));
        due("21: PATHS take no time", 0, () -> y.asked(0, 3, 0));
    }

    private static void lodgedBounds() {
        WolfDeeds x = Told.winter("pack 0 0;wood 0;house 0;house 0;house 0;path 0 1 3;path 0 2 3;path 1 2 1;squire 2 0 0;right 0;");
        for (int index : NO_INDEX) {
            Told.noSuch("22: no PLACE " + index, x, () -> x.lodged(index));
        }
        Told.noSuch("22: no PLACE 4", x, () -> x.lodged(4));
        Told.unchanged("22: of like ones the least", x, 1, () -> x.lodged(0));
        Told.unchanged("22: itself", x, 2, () -> x.lodged(2));
        Told.unchanged("22: itself without PATHS", x, 3, () -> x.lodged(3));
        WolfDeeds y = Told.winter("pack 0 0;wood 0;house 0;house 0;path 0 1 3;path 0 2 2;");
        due("22: the nearer one", 2, () -> y.lodged(0));
        WolfDeeds z = Told.winter("pack 0 0;wood 0;house 0;field 0;edge 0;path 2 3 1;");
        due("22: none without PATHS", NO, () -> z.lodged(0));
        due("22: none that PATHS lead to", NO, () -> z.lodged(2));
        WolfDeeds w = Told.winter(row("wood"));
        due("22: 72 HOURS", 0, () -> w.lodged(8));
    }

    // ---- 23 to 25: THEN, LASTS

    private static void thenBounds() {
        WolfDeeds x = Told.winter("pack 1 0;house 0;child 0 0 0;child 0 3 98;rent 1;");
        for (int index : NO_INDEX) {
            Told.noSuch("23: no PERSON " + index, x, () -> x.then(index, 0, 0));
            Told.noSuch("23: what " + index, x, () -> x.then(0, 0, index));
        }
        Told.noSuch("23: no PERSON 2, ahead", x, () -> x.then(2, 100, 0));
        Told.noSuch("23: what 4, ahead", x, () -> x.then(0, -1, 4));
        for (int days : NO_DAYS) {
            Told.illegal("23: " + days + " DAYS", x, () -> x.then(0, days, 0));
        }
        long[][] none = {{0, 0, 0, 0}, {3, 98, 0, 0}};
        long[][] one = {{0, 0, 1, 1}, {2, 97, 0, 0}};
        long[][] all = {{0, 0, 99, 99}, {0, 0, 96, 1}};
        for (int person = 0; person < 2; person++) {
            for (int what = 0; what < 4; what++) {
                int who = person;
                int asked = what;
                Told.unchanged("23: no DAYS", x, none[person][what], () -> x.then(who, 0, asked));
                Told.unchanged("23: one DAY", x, one[person][what], () -> x.then(who, 1, asked));
                Told.unchanged("23: 99 DAYS", x, all[person][what], () -> x.then(who, 99, asked));
            }
        }
        x.days(5);
        due("23: COLD on these DAYS alone", 0, () -> x.then(0, 0, 3));
        due("23: on one of these", 1, () -> x.then(0, 1, 3));
        due("23: OWES with what he OWES now", 6, () -> x.then(0, 1, 2));
    }

    private static void packThenBounds() {
        WolfDeeds x = Told.winter("pack 1 0;pack 1 99;pack 0 7;");
        for (int index : NO_INDEX) {
            Told.noSuch("24: no PACK " + index, x, () -> x.packThen(index, 0, 0));
            Told.noSuch("24: what " + index, x, () -> x.packThen(0, 0, index));
        }
        Told.noSuch("24: no PACK 3, ahead", x, () -> x.packThen(3, 100, 0));
        Told.noSuch("24: what 2, ahead", x, () -> x.packThen(0, -1, 2));
        for (int days : NO_DAYS) {
            Told.illegal("24: " + days + " DAYS", x, () -> x.packThen(0, days, 0));
        }
        int[] days = {0, 1, 98, 99};
        long[][] stores = {{0, 0, 0, 0}, {99, 98, 1, 0}, {7, 7, 7, 7}};
        long[][] thin = {{0, 1, 98, 99}, {0, 0, 0, 0}, {0, 0, 0, 0}};
        for (int i = 0; i < 4; i++) {
            int many = days[i];
            for (int pack = 0; pack < 3; pack++) {
                int one = pack;
                Told.unchanged("24: STORE in " + many, x, stores[pack][i], () -> x.packThen(one, many, 0));
                Told.unchanged("24: THIN in " + many, x, thin[pack][i], () -> x.packThen(one, many, 1));
            }
        }
        x.days(30);
        due("24: THIN on these DAYS alone", 99, () -> x.packThen(0, 99, 1));
        due("24: another one's STORE is eaten up", 30, () -> x.packThen(1, 99, 1));
    }

    private static void lastsAre(String text, int want) {
        WolfDeeds x = Told.winter(text);
        Told.unchanged("25: " + text, x, want, x::lasts);
    }

    private static void lastsBounds() {
        lastsAre("pack 1 0;", 0);
        lastsAre("pack 1 1;", 1);
        lastsAre("pack 1 98;", 98);
        lastsAre("pack 1 99;", 99);
        lastsAre("pack 0 0;", 99);
        lastsAre("pack 0 0;house 0;child 0 9 0;rent 0;", 0);
        lastsAre("pack 0 0;house 0;child 0 9 0;rent 0;snow 0 1;", 1);
        lastsAre("pack 0 0;house 0;child 0 9 98;rent 0;", 98);
        lastsAre("pack 0 0;house 0;child 0 9 99;rent 0;", 99);
        lastsAre("pack 0 0;house 0;child 0 9 0;rent 0;snow 0;", 99);
        lastsAre("pack 0 0;house 0;child 0 0 9;rent 1;snow 0;", 0);
        lastsAre("pack 0 0;house 0;child 0 3 9;rent 1;snow 0;", 3);
        lastsAre("pack 0 0;house 0;child 0 0 9;rent day=98;snow 0;", 98);
        lastsAre("pack 0 0;house 0;child 0 0 9;rent day=99;snow 0;", 99);
        WolfDeeds x = Told.winter("pack 1 1;house 0;child 0 0 0;rent 3*(day=0);snow 1 0;");
        x.days(2);
        x.gather(0, 99);
        due("25: THIN today", 0, x::lasts);
        WolfDeeds y = Told.winter("pack 0 0;house 0;child 0 0 1;rent 3*(day=0);snow 1 0;");
        y.days(1);
        due("25: he OWES no more than now", 1, y::lasts);
    }

    // ---- 26, 27: THE FAIREST, NEEDED

    private static void fairestIs(String text, int days, long want) {
        WolfDeeds x = Told.winter(text);
        Told.unchanged("26: " + text + " in " + days, x, want, () -> x.fairest(days));
    }

    private static void fairestBounds() {
        WolfDeeds x = Told.winter("pack 20 0;house 0;child 0 20 9;");
        for (int days : NO_DAYS) {
            Told.illegal("26: " + days + " DAYS", x, () -> x.fairest(days));
        }
        fairestIs("pack 20 0;house 0;child 0 20 0;", 0, 0);
        fairestIs("pack 20 0;house 0;child 0 20 0;", 1, 20);
        fairestIs("pack 20 0;house 0;child 0 20 0;", 2, NO);
        fairestIs("pack 20 0;house 0;child 0 19 0;", 1, NO);
        fairestIs("pack 20 1;house 0;child 0 19 0;", 1, 19);
        fairestIs("pack 20 0;house 0;child 0 99 0;child 0 99 0;", 1, 10);
        fairestIs("pack 20 0;house 0;child 0 9 0;child 0 99 0;", 1, NO);
        fairestIs("pack 1 0;", 1, NO);
        fairestIs("pack 1 1;", 1, 0);
        fairestIs("pack 0 0;house 0;child 0 0 0;rent 99;", 99, 0);
        fairestIs("pack 1 0;pack 1 0;house 0;child 0 9 0;", 1, NO);
        fairestIs("pack 1 0;pack 2 0;house 0;house 1;child 0 9 0;child 1 9 0;rent 0;", 1, 2);
        fairestIs("pack 1 98;house 0;child 0 1 0;", 98, 0);
        fairestIs("pack 1 98;house 0;child 0 1 0;", 99, NO);
        fairestIs("pack 1 49;house 0;child 0 50 0;", 49, 0);
        WolfDeeds y = Told.winter("pack 0 0;house 0;child 0 1 0;rent 3*(day=0);");
        y.days(1);
        due("26: he OWES already, but no more", 0, () -> y.fairest(9));
    }

    private static void neededAre(String text, int days, long want) {
        WolfDeeds x = Told.winter(text);
        Told.unchanged("27: " + text + " in " + days, x, want, () -> x.needed(days));
    }

    private static void neededBounds() {
        WolfDeeds x = Told.winter("pack 1 0;house 0;child 0 1 9;");
        for (int days : NO_DAYS) {
            Told.illegal("27: " + days + " DAYS", x, () -> x.needed(days));
        }
        neededAre("pack 1 0;house 0;child 0 1 0;", 0, 0);
        neededAre("pack 1 0;house 0;child 0 1 0;", 1, 1);
        neededAre("pack 1 0;house 0;child 0 1 0;", 2, 0);
        neededAre("pack 1 1;house 0;child 0 1 0;", 1, 0);
        neededAre("pack 1 1;house 0;child 0 1 0;", 2, 1);
        neededAre("pack 1 98;house 0;child 0 1 0;", 98, 0);
        neededAre("pack 1 98;house 0;child 0 1 0;", 99, 1);
        neededAre("pack 6 0;house 0;" + "child 0 1 0;".repeat(6), 1, 63);
        neededAre("pack 5 0;house 0;" + "child 0 1 0;".repeat(6), 1, 0);
        neededAre("pack 7 0;house 0;" + "child 0 1 0;".repeat(6), 1, 0);
        neededAre("pack 1 0;pack 2 0;pack 0 0;house 0;house 1;house 2;child 0 1 0;child 1 1 0;child 1 1 0;child 2 1 0;", 1, 7);
        neededAre("pack 4 0;house 0;child 0 9 0;child 0 9 0;rent 4-store;", 1, 0);
        neededAre("pack 4 0;house 0;child 0 9 0;child 0 9 0;rent 4*(store<1);", 1, 0);
        neededAre("pack 4 0;house 0;child 0 9 0;child 0 2 0;rent 4*(store<1);", 1, 1);
        neededAre("pack 0 0;house 0;child 0 9 0;", 99, 0);
        WolfDeeds y = Told.winter("pack 1 0;house 0;child 0 7 0;snow 0;rent 1-(day=0);");
        y.days(1);
        due("27: THIN so far counts for nothing", 1, () -> y.needed(1));
    }

    // ---- 28, 29: WOOD, THE EDGE

    private static void woodBounds() {
        WolfDeeds x = Told.winter("pack 0 0;house 0;child 0 0 0;child 0 0 9;child 0 0 99;rent 0;");
        for (int index : NO_INDEX) {
            Told.noSuch("28: no PERSON " + index, x, () -> x.wood(index, 0));
        }
        Told.noSuch("28: no PERSON 3, ahead", x, () -> x.wood(3, 100));
        for (int days : NO_DAYS) {
            Told.illegal("28: " + days + " DAYS", x, () -> x.wood(0, days));
        }
        int[] days = {0, 1, 9, 10, 98, 99};
        long[][] dues = {{0, 1, 9, 10, 98, 99}, {0, 0, 0, 1, 89, 90}, {0, 0, 0, 0, 0, 0}};
        for (int person = 0; person < 3; person++) {
            for (int i = 0; i < 6; i++) {
                int who = person;
                int many = days[i];
                Told.unchanged("28: " + person + " in " + many, x, dues[person][i], () -> x.wood(who, many));
            }
        }
        WolfDeeds y = Told.winter("pack 0 0;house 0;child 0 0 1;rent 0;snow 0 0 1 9;");
        due("28: SNOW isn't 0 on one DAY", 0, () -> y.wood(0, 3));
        due("28: on two", 1, () -> y.wood(0, 4));
        due("28: on three", 2, () -> y.wood(0, 7));
        y.days(2);
        due("28: from the DAY as it is", 1, () -> y.wood(0, 2));
        WolfDeeds z = Told.winter("pack 0 0;house 0;child 0 0 0;snow 0;");
        due("28: no SNOW at all", 0, () -> z.wood(0, 99));
    }

    private static void edgeBounds() {
        WolfDeeds x = Told.winter(RING);
        for (int index : NO_INDEX) {
            Told.noSuch("29: no PERSON " + index, x, () -> x.edge(index, 0));
        }
        Told.noSuch("29: no PERSON 2, ahead", x, () -> x.edge(2, 24));
        for (int hour : NO_HOUR) {
            Told.illegal("29: HOUR " + hour, x, () -> x.edge(0, hour));
        }
        Told.unchanged("29: of like ones the least, from 0", x, 1, () -> x.edge(0, 0));
        Told.unchanged("29: of like ones the least, from 23", x, 1, () -> x.edge(1, 23));
        WolfDeeds y = Told.winter("pack 0 0;house 0;edge 0;edge 0;path 0 1 3;path 0 2 2;child 0 0 0;right 1;");
        due("29: the sooner one", 2, () -> y.edge(0, 0));
        WolfDeeds z = Told.winter("pack 0 0;house 0;edge 0;edge 0;path 0 1 3;path 0 2 2;child 0 0 0;right hour=0;");
        due("29: both in HOUR 24", 1, () -> z.edge(0, 0));
        due("29: one today yet", 2, () -> z.edge(0, 22));
        WolfDeeds first = Told.winter("pack 0 0;edge 0;house 0;edge 0;path 0 1 3;path 1 2 3;child 1 0 0;right 1;");
        due("29: PLACE 0 is the least", 0, () -> first.edge(0, 0));
        WolfDeeds w = Told.winter(SMALL + "right 1;");
        due("29: none of this KIND", NO, () -> w.edge(0, 0));
        WolfDeeds v = Told.winter("pack 0 0;house 0;edge 0;child 0 0 0;right 1;");
        due("29: none by PATHS", NO, () -> v.edge(0, 0));
    }

    private static void edgeUpTo95() {
        WolfDeeds x = Told.winter(row("edge") + "right 1;");
        due("29: in HOUR 95", 8, () -> x.edge(0, 23));
        WolfDeeds y = Told.winter(row("edge") + "right not (place=2 and hour=23);");
        due("29: in HOUR 94", 8, () -> y.edge(0, 22));
        due("29: none up to HOUR 95", NO, () -> y.edge(0, 23));
    }
}
