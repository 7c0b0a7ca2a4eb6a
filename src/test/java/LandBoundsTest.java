/** What there is and ACTS: promises 5 to 16 and the Terms' second row, sentence by sentence, at each boundary that it names. */
public final class LandBoundsTest {
    private static final long NO = -1;
    private static final int[] NO_INDEX = {-1, Integer.MIN_VALUE, Integer.MAX_VALUE, 32};
    /** A doctor at home in a house, a wood behind it; SNOW 4. */
    private static final String SMALL = "pack 3 7;house 0;wood 0;path 0 1 1;doctor 0 5 6;snow 4;";

    private LandBoundsTest() {
    }

    public static void main(String[] args) {
        countBounds();
        fullLand();
        packBounds();
        placeBounds();
        personBounds();
        dueBounds();
        rentValues();
        exprWraps();
        exprTests();
        farBounds();
        rightBounds();
        rightWithout();
        rightValues();
        daysBounds();
        lastDay();
        payOneAfterTheOther();
        payAsManyAsHeHas();
        oweAtMost();
        storeAtMost();
        packsEat();
        peopleBurn();
        quarterMore();
        payBounds();
        gatherBounds();
        lampBounds();
        favourBounds();
        undoBounds();
        fortyActs();
        undoneLastFirst();
        Told.end();
    }

    private static void due(String what, long want, Told.Call call) {
        Told.due(what, want, call);
    }

    // ---- 5 to 9

    private static void countBounds() {
        WolfDeeds x = Told.winter(SMALL);
        int[] whats = {-1, 13, Integer.MIN_VALUE, Integer.MAX_VALUE};
        for (int what : whats) {
            Told.noSuch("5: another what, " + what, x, () -> x.count(what));
        }
        for (int what = 0; what <= 12; what++) {
            int asked = what;
            long[] dues = {1, 2, 1, 1, 0, 4, 5, 0, 0, 0, 0, 0, 0};
            Told.unchanged("5: count(" + what + ")", x, dues[what], () -> x.count(asked));
        }
        Told.refused("5: STATUS 1", x, 1, NO, () -> x.days(0));
        Told.refused("5: STATUS 2", x, 2, NO, () -> x.track(0, 72));
        Told.feed(x, Told.bytes("x"));
        Told.refused("5: STATUS 0", x, 0, 1, () -> x.winter(1));
        due("5: one of each", 3, () -> x.count(10) + x.count(11) + x.count(12));
    }

    private static void fullLand() {
        StringBuilder text = new StringBuilder("pack 20 99;pack 0 0;pack 0 0;pack 1 0;" + "house 3;".repeat(9));
        for (int i = 1; i < 9; i++) {
            text.append("path 0 ").append(i).append(" 9;");
        }
        text.append("path 1 2 9;path 2 3 9;path 3 4 9;path 4 5 9;path 5 6 9;path 6 7 1;" + "child 8 99 99;".repeat(6));
        WolfDeeds x = Told.winter(text.toString());
        long[] dues = {4, 9, 14, 6, 0, 1, 594};
        for (int what = 0; what < dues.length; what++) {
            int asked = what;
            due("5: a full land, count(" + what + ")", dues[what], () -> x.count(asked));
        }
        due("6: all PLACES", 511, () -> x.pack(3, 3));
        due("6: all PEOPLE", 63, () -> x.pack(3, 4));
        due("6: no PLACES", 0, () -> x.pack(0, 3));
        due("6: no PEOPLE", 0, () -> x.pack(0, 4));
        due("6: HUNGER 20", 20, () -> x.pack(0, 0));
        due("6: STORE 99", 99, () -> x.pack(0, 1));
        long[] paths = {8, 2, 3, 3, 3, 3, 3, 2, 1};
        for (int place = 0; place < 9; place++) {
            int one = place;
            due("7: PATHS of PLACE " + place, paths[place], () -> x.place(one, 2));
        }
        due("7: everybody's HOME", 63, () -> x.place(8, 3));
        due("7: nobody's", 0, () -> x.place(0, 3));
        due("9: over the middle", 18, () -> x.far(1, 8));
        due("9: by the PATH", 1, () -> x.far(7, 6));
        Told.noSuch("6: a fifth PACK", x, () -> x.pack(4, 0));
        Told.noSuch("7: a tenth PLACE", x, () -> x.place(9, 0));
        Told.noSuch("8: a seventh PERSON", x, () -> x.person(6, 0));
    }

    private static void packBounds() {
        WolfDeeds x = Told.winter(SMALL);
        int[] whats = {-1, 5, Integer.MIN_VALUE, Integer.MAX_VALUE};
        for (int what : whats) {
            Told.noSuch("6: what " + what, x, () -> x.pack(0, what));
        }
        for (int pack : NO_INDEX) {
            Told.noSuch("6: no PACK " + pack, x, () -> x.pack(pack, 0));
        }
        Told.noSuch("6: no PACK 1", x, () -> x.pack(1, 0));
        long[] dues = {3, 7, 0, 3, 1};
        for (int what = 0; what < 5; what++) {
            int asked = what;
            Told.unchanged("6: pack(0, " + what + ")", x, dues[what], () -> x.pack(0, asked));
        }
    }

    private static void placeBounds() {
        WolfDeeds x = Told.winter("pack 0 0;pack 0 0;house 1;field 0;edge 1;wood 0;path 3 0 1;widow 0 0 0;");
        int[] whats = {-1, 4, Integer.MIN_VALUE, Integer.MAX_VALUE};
        for (int what : whats) {
            Told.noSuch("7: what " + what, x, () -> x.place(0, what));
        }
        for (int place : NO_INDEX) {
            Told.noSuch("7: no PLACE " + place, x, () -> x.place(place, 0));
        }
        Told.noSuch("7: no PLACE 4", x, () -> x.place(4, 0));
        long[][] dues = {{0, 1, 1, 1}, {1, 0, 0, 0}, {2, 1, 0, 0}, {3, 0, 1, 0}};
        for (int place = 0; place < 4; place++) {
            for (int what = 0; what < 4; what++) {
                int one = place;
                int asked = what;
                Told.unchanged("7: place(" + place + ", " + what + ")", x, dues[place][what], () -> x.place(one, asked));
            }
        }
    }

    private static void personBounds() {
        WolfDeeds x = Told.winter("pack 0 0;wood 0;house 0;squire 1 0 99;doctor 1 99 0;widow 1 1 1;child 1 2 3;");
        int[] whats = {-1, 9, Integer.MIN_VALUE, Integer.MAX_VALUE};
        for (int what : whats) {
            Told.noSuch("8: what " + what, x, () -> x.person(0, what));
        }
        for (int person : NO_INDEX) {
            Told.noSuch("8: no PERSON " + person, x, () -> x.person(person, 0));
        }
        Told.noSuch("8: no PERSON 4", x, () -> x.person(4, 0));
        long[][] dues = {{0, 1, 0, 99, 0, 0, 0, 0, 1}, {1, 1, 99, 0, 0, 0, 0, 0, 1}, {2, 1, 1, 1, 0, 0, 0, 0, 1}, {3, 1, 2, 3, 0, 0, 0, 0, 1}};
        for (int person = 0; person < 4; person++) {
            for (int what = 0; what < 9; what++) {
                int one = person;
                int asked = what;
                due("8: person(" + person + ", " + what + ")", dues[person][what], () -> x.person(one, asked));
            }
        }
    }

    private static void farBounds() {
        StringBuilder chain = new StringBuilder("pack 0 0;" + "wood 0;".repeat(9));
        for (int i = 0; i < 8; i++) {
            chain.append("path ").append(i).append(' ').append(i + 1).append(" 9;");
        }
        WolfDeeds x = Told.winter(chain.toString());
        due("9: the longest way", 72, () -> x.far(0, 8));
        due("9: and back", 72, () -> x.far(8, 0));
        due("9: itself", 0, () -> x.far(8, 8));
        for (int place : NO_INDEX) {
            Told.noSuch("9: no PLACE " + place, x, () -> x.far(place, 0));
            Told.noSuch("9: no other " + place, x, () -> x.far(0, place));
        }
        Told.noSuch("9: no PLACE 9", x, () -> x.far(9, 9));
        WolfDeeds y = Told.winter(chain + "path 0 8 9;");
        due("9: the other way round", 9, () -> y.far(0, 8));
        due("9: half the ring", 36, () -> y.far(0, 4));
        due("9: more than half", 36, () -> y.far(0, 5));
        WolfDeeds z = Told.winter("pack 0 0;wood 0;wood 0;wood 0;path 0 1 5;path 1 2 4;path 0 2 9;");
        due("9: both alike", 9, () -> z.far(0, 2));
        WolfDeeds w = Told.winter("pack 0 0;wood 0;wood 0;wood 0;path 0 1 1;");
        due("9: there is none", NO, () -> w.far(0, 2));
        due("9: nor back", NO, () -> w.far(2, 1));
    }

    // ---- 8: DUE, and EXPRS

    private static void rentIs(String expr, int want) {
        WolfDeeds x = Told.winter(SMALL + "rent " + expr + ";");
        due("8: DUE by " + expr, want, () -> x.person(0, 8));
    }

    private static void dueBounds() {
        WolfDeeds x = Told.winter(SMALL);
        due("8: without RENT 1", 1, () -> x.person(0, 8));
        rentIs("0", 0);
        rentIs("0-1", 0);
        rentIs("0-9999*9999", 0);
        rentIs("99", 99);
        rentIs("100", 99);
        rentIs("9999", 99);
        rentIs("8192*8192*32", 0);
        rentIs("8192*8192*32-1", 99);
        WolfDeeds y = Told.winter(SMALL + "rent store+lambs;");
        due("8: now", 12, () -> y.person(0, 8));
        y.pay(0, 0, 2);
        due("8: as STORE and LAMBS are then", 12, () -> y.person(0, 8));
        y.days(1);
        due("8: on DAY 1", 9, () -> y.person(0, 8));
        WolfDeeds z = Told.winter("pack 0 0;house 0;child 0 9 9;rent snow*10+day;snow 0 7;");
        due("8: SNOW of DAY 0", 0, () -> z.person(0, 8));
        z.days(1);
        due("8: SNOW of DAY 1", 71, () -> z.person(0, 8));
    }

    /** 8192*8192*32 is the least int, as it wraps. */
    private static void exprWraps() {
        String least = "8192*8192*32";
        rentIs(least + "<0", 1);
        rentIs("0<" + least + "-1", 1);
        rentIs(least + "-1=8192*8192*31+8192*8192-1", 1);
        rentIs(least + "-1+1=" + least, 1);
        rentIs("8192*8192*64", 0);
        rentIs("0-" + least + "=" + least, 1);
        rentIs(least + "*(0-1)=" + least, 1);
        rentIs(least + "/(0-1)=" + least, 1);
        rentIs("(" + least + "-1)/(0-1)=" + least + "+1", 1);
        rentIs("9999*9999*22<0", 1);
        rentIs("0<9999*9999*21", 1);
        rentIs("7/2", 3);
        rentIs("(0-7)/2+9", 6);
        rentIs("7/(0-2)+9", 6);
        rentIs("(0-7)/(0-2)", 3);
        rentIs("(0-1)/2+9", 9);
        rentIs("1/2", 0);
        rentIs("5/0", 0);
        rentIs("0/0", 0);
        rentIs("(0-5)/0+4", 4);
        rentIs("5/(3-3)+4", 4);
    }

    private static void exprTests() {
        rentIs("2<3", 1);
        rentIs("3<3", 0);
        rentIs("4<3", 0);
        rentIs("(0-1)<0", 1);
        rentIs("2=3", 0);
        rentIs("3=3", 1);
        rentIs("not 0", 1);
        rentIs("not 1", 0);
        rentIs("not 2", 0);
        rentIs("not (0-1)", 0);
        rentIs("not not 7", 1);
        rentIs("not not not not not not 7", 1);
        rentIs("not not not not not 7", 0);
        rentIs("0 and 0", 0);
        rentIs("3 and 0", 0);
        rentIs("0 and 3", 0);
        rentIs("2 and 4", 1);
        rentIs("(0-1) and (0-1)", 1);
        rentIs("1 and 1", 1);
        rentIs("0 or 0", 0);
        rentIs("3 or 0", 1);
        rentIs("0 or (0-3)", 1);
        rentIs("2 or 4", 1);
        rentIs("1 or 1 and 0", 1);
        rentIs("(1 or 1) and 0", 0);
        rentIs("not 1 or 1", 1);
        rentIs("not (1 or 1)", 0);
        rentIs("not 1 and 0", 0);
        rentIs("not 2=3", 1);
        rentIs("not 1<0+2", 0);
        rentIs("(0 or 0)+5", 5);
        rentIs("(1 and 0)+5", 5);
        rentIs("(3<2)+5", 5);
        rentIs("(2=3)+5", 5);
        rentIs("(not 3)+5", 5);
        rentIs("(3 or 4)+(3 and 4)+(3<4)+(4=4)+(not 0)", 5);
        rentIs("1+1<1*3", 1);
        rentIs("9-4-3", 2);
        rentIs("9-(4-3)", 8);
        rentIs("64/8/4", 2);
        rentIs("64/(8/4)", 32);
        rentIs("9/2*2", 8);
        rentIs("2+3*4-6/2", 11);
        rentIs("0009", 9);
        String deep = "0 or 1 and 0<0+1*(";
        rentIs(deep.repeat(5) + "0 or 1 and 0<0+1*7" + ")".repeat(5), 1);
        rentIs(deep.repeat(5) + "0 or 1 and 0<0+1*0" + ")".repeat(5), 0);
        rentIs("0+".repeat(300) + "7", 7);
        rentIs("1+".repeat(90) + "1", 91);
        rentIs("9-(".repeat(5) + "1" + ")".repeat(5), 8);
    }

    private static void rentValues() {
        String text = "pack 3 7;pack 20 90;house 1;house 0;widow 0 9 9;doctor 1 50 0;snow 4 0 6;rent ";
        String[] values = {"lambs", "kind", "hunger", "store", "snow", "day", "owes"};
        long[][] widow = {{9, 2, 20, 90, 4, 0, 0}, {0, 2, 20, 79, 0, 1, 11}, {0, 2, 20, 59, 6, 2, 31}};
        long[][] doctor = {{50, 1, 3, 7, 4, 0, 0}, {30, 1, 3, 24, 0, 1, 0}, {10, 1, 3, 41, 6, 2, 0}};
        for (int i = 0; i < 7; i++) {
            rentValue(text, values[i], i, widow, 0);
            rentValue(text, values[i], i, doctor, 1);
        }
    }

    /** By 20 LAMBS on each of the first DAYS; then one VALUE is asked for, as RENT gives 1 if it is as due. */
    private static void rentValue(String text, String value, int which, long[][] dues, int person) {
        for (int day = 0; day < 3; day++) {
            WolfDeeds x = Told.winter(text + "20*(day<" + day + ")+(day=" + day + " and " + value + "=" + dues[day][which] + ");");
            for (int i = 0; i < day; i++) {
                x.days(1);
            }
            due("8: " + value + " of " + person + " on DAY " + day, 1, () -> x.person(person, 8));
        }
    }

    // ---- 10: RIGHT

    private static void rightBounds() {
        WolfDeeds x = Told.winter(SMALL + "right 0;");
        int[] hours = {-1, 24, Integer.MIN_VALUE, Integer.MAX_VALUE};
        for (int hour : hours) {
            Told.noSuch("10: hour " + hour, x, () -> Told.flag(x.right(0, 1, hour)));
        }
        for (int index : NO_INDEX) {
            Told.noSuch("10: no PERSON " + index, x, () -> Told.flag(x.right(index, 1, 0)));
            Told.noSuch("10: no PLACE " + index, x, () -> Told.flag(x.right(0, index, 0)));
        }
        Told.noSuch("10: no PERSON 1", x, () -> Told.flag(x.right(1, 1, 0)));
        Told.noSuch("10: no PLACE 2", x, () -> Told.flag(x.right(0, 2, 0)));
        Told.unchanged("10: 0 isn't more than 0", x, 0, () -> Told.flag(x.right(0, 1, 12)));
        Told.unchanged("10: at HOME", x, 1, () -> Told.flag(x.right(0, 0, 12)));
        x.favour(0, 1, true);
        due("10: by a FAVOUR in hour 0", 1, () -> Told.flag(x.right(0, 1, 0)));
        due("10: by a FAVOUR in hour 23", 1, () -> Told.flag(x.right(0, 1, 23)));
        x.favour(0, 1, false);
        due("10: without it again", 0, () -> Told.flag(x.right(0, 1, 23)));
        rightIs("1", 1);
        rightIs("0-1", 0);
        rightIs("8192*8192*32", 0);
        rightIs("8192*8192*32-1", 1);
        rightIs("not 0", 1);
    }

    private static void rightIs(String expr, int want) {
        WolfDeeds x = Told.winter(SMALL + "right " + expr + ";");
        due("10: RIGHT " + expr, want, () -> Told.flag(x.right(0, 1, 12)));
        due("10: at HOME by RIGHT " + expr, 1, () -> Told.flag(x.right(0, 0, 12)));
    }

    private static void rightWithout() {
        WolfDeeds x = Told.winter(SMALL);
        for (int hour = 0; hour < 24; hour++) {
            int asked = hour;
            due("10: without one, hour " + hour, hour < 6 || hour > 17 ? 0 : 1, () -> Told.flag(x.right(0, 1, asked)));
            due("10: at HOME, hour " + hour, 1, () -> Told.flag(x.right(0, 0, asked)));
        }
    }

    private static void rightValues() {
        String folk = "pack 0 9;house 0;field 0;edge 0;wood 0;house 0;squire 0 0 0;doctor 0 0 0;widow 0 0 0;child 0 0 0;snow 5 0;";
        for (int kind = 0; kind < 4; kind++) {
            WolfDeeds x = Told.winter(folk + "right kind=" + kind + ";");
            for (int person = 0; person < 4; person++) {
                int one = person;
                due("10: kind " + kind, person == kind ? 1 : 0, () -> Told.flag(x.right(one, 1, 0)));
            }
            WolfDeeds y = Told.winter(folk + "right place=" + kind + ";");
            for (int place = 1; place < 5; place++) {
                int one = place;
                due("10: place " + kind, place % 4 == kind ? 1 : 0, () -> Told.flag(y.right(0, one, 0)));
            }
        }
        for (int hour = 0; hour < 24; hour += 23) {
            WolfDeeds x = Told.winter(folk + "right hour=" + hour + ";");
            due("10: hour 0", hour == 0 ? 1 : 0, () -> Told.flag(x.right(0, 1, 0)));
            due("10: hour 23", hour == 23 ? 1 : 0, () -> Told.flag(x.right(0, 1, 23)));
            due("10: hour 12", 0, () -> Told.flag(x.right(0, 1, 12)));
        }
        WolfDeeds z = Told.winter(folk + "right snow=5 and lamp=0 and owes=0 and day=0;");
        due("10: the DAY as it is", 1, () -> Told.flag(z.right(0, 1, 0)));
        z.lamp(0, true);
        due("10: with a LAMP", 0, () -> Told.flag(z.right(0, 1, 0)));
        due("10: another's LAMP", 1, () -> Told.flag(z.right(1, 1, 0)));
        WolfDeeds w = Told.winter(folk + "right snow=0 and lamp=1 and owes=1 and day=1;");
        w.lamp(0, true);
        due("10: not yet", 0, () -> Told.flag(w.right(0, 1, 0)));
        w.days(1);
        due("10: on DAY 1", 1, () -> Told.flag(w.right(0, 1, 0)));
        w.days(1);
        due("10: no more", 0, () -> Told.flag(w.right(0, 1, 0)));
    }

    // ---- 11: DAYS

    private static void daysBounds() {
        WolfDeeds x = Told.winter(SMALL);
        int[] refused = {0, 31, -1, Integer.MIN_VALUE, Integer.MAX_VALUE};
        for (int many : refused) {
            Told.refused("11: " + many + " DAYS", x, 1, NO, () -> x.days(many));
        }
        due("11: one", 1, () -> x.days(1));
        due("11: thirty", 31, () -> x.days(30));
        due("11: two ACTS", 2, () -> x.count(7));
    }

    private static void lastDay() {
        WolfDeeds x = Told.winter("snow 0;");
        for (int i = 0; i < 32; i++) {
            x.days(30);
        }
        due("11: 969", 969, () -> x.days(9));
        due("11: 999 isn't above 999", 999, () -> x.days(30));
        Told.refused("11: 1000 would be above", x, 1, NO, () -> x.days(1));
        Told.refused("11: 1029 would be", x, 1, NO, () -> x.days(30));
        x.undo();
        due("11: 970", 970, () -> x.days(1));
        Told.refused("11: 1000 by thirty", x, 1, NO, () -> x.days(30));
        due("11: 999 by 29", 999, () -> x.days(29));
        due("25: DAYS ahead of the last one", 99, x::lasts);
    }

    private static void payOneAfterTheOther() {
        WolfDeeds x = Told.winter("pack 0 6;house 0;child 0 9 0;child 0 9 0;child 0 9 0;rent store/3;snow 0;");
        x.days(1);
        due("11: a third of 6", 7, () -> x.person(0, 2));
        due("11: a third of 8", 7, () -> x.person(1, 2));
        due("11: a third of 10", 6, () -> x.person(2, 2));
        due("11: all to the STORE", 13, () -> x.pack(0, 1));
        WolfDeeds y = Told.winter("pack 0 0;pack 0 0;house 0;house 1;child 0 9 0;child 1 9 0;rent kind-1+(store<1);snow 0;");
        y.days(1);
        due("11: to the PACK of his HOME", 3, () -> y.pack(0, 1));
        due("11: each to his", 3, () -> y.pack(1, 1));
        WolfDeeds z = Told.winter("pack 1 0;house 0;child 0 1 0;snow 0;");
        z.days(1);
        due("11: PEOPLE pay ahead of its meal", 0, () -> z.pack(0, 2));
        due("11: eaten", 0, () -> z.pack(0, 1));
        z.days(1);
        due("11: nothing more to eat", 1, () -> z.pack(0, 2));
    }

    private static void payAsManyAsHeHas() {
        WolfDeeds x = Told.winter("pack 0 0;house 0;child 0 2 0;child 0 3 0;child 0 4 0;child 0 0 0;rent 3;snow 0;");
        x.days(1);
        long[][] dues = {{0, 1}, {0, 0}, {1, 0}, {0, 3}};
        for (int person = 0; person < 4; person++) {
            int one = person;
            due("11: LAMBS of " + person, dues[person][0], () -> x.person(one, 2));
            due("11: " + person + " OWES", dues[person][1], () -> x.person(one, 4));
        }
        due("11: STORE", 8, () -> x.pack(0, 1));
        x.days(1);
        due("11: OWES besides", 6, () -> x.person(3, 4));
        due("11: OWES two and one", 4, () -> x.person(0, 4));
        String[] rents = {"0-5", "0", "99", "100"};
        int[] left = {99, 99, 0, 0};
        for (int i = 0; i < 4; i++) {
            WolfDeeds y = Told.winter("pack 0 9;house 0;child 0 99 0;snow 0;rent " + rents[i] + ";");
            int lambs = left[i];
            y.days(1);
            due("11: DUE kept, " + rents[i], lambs, () -> y.person(0, 2));
            due("11: OWES nothing, " + rents[i], 0, () -> y.person(0, 4));
            due("11: STORE, " + rents[i], 108 - lambs, () -> y.pack(0, 1));
        }
    }

    private static void oweAtMost() {
        WolfDeeds x = Told.winter("pack 0 0;house 0;child 0 0 0;snow 0;rent 98;");
        for (int i = 0; i < 34; i++) {
            x.days(3);
        }
        due("11: 102 times 98", 9996, () -> x.person(0, 4));
        x.days(1);
        due("11: 9999 at most", 9999, () -> x.person(0, 4));
        x.days(30);
        due("11: still", 9999, () -> x.person(0, 4));
        WolfDeeds y = Told.winter("pack 0 0;house 0;child 0 0 0;snow 0;rent 99;");
        y.days(30);
        y.days(30);
        y.days(30);
        y.days(10);
        due("11: 100 times 99", 9900, () -> y.person(0, 4));
        due("23: 9999 just", 9999, () -> y.then(0, 1, 2));
        due("23: and no more", 9999, () -> y.then(0, 2, 2));
        due("25: one DAY till it is full", 0, y::lasts);
        y.days(1);
        due("25: it can't be more than now", 99, y::lasts);
        due("26: nor by the rent 20", 0, () -> y.fairest(9));
    }

    /** By 810 DAYS the STORE has 9819, and each has 89 LAMBS. */
    private static void storeAtMost() {
        WolfDeeds x = Told.winter("pack 0 99;house 0;" + "child 0 99 0;".repeat(6) + "rent 2;");
        for (int i = 0; i < 27; i++) {
            x.days(30);
        }
        x.pay(0, 0, 89);
        x.pay(1, 0, 89);
        due("12: 9997", 9997, () -> x.pack(0, 1));
        due("12: two more", 87, () -> x.pay(2, 0, 2));
        due("12: 9999", 9999, () -> x.pack(0, 1));
        x.undo();
        due("12: three more, all his", 86, () -> x.pay(2, 0, 3));
        due("12: 9999 at most", 9999, () -> x.pack(0, 1));
        due("12: he pays them all the same", 85, () -> x.pay(2, 0, 1));
        x.undo();
        x.undo();
        due("24: 9997 and 8 as rent", 9999, () -> x.packThen(0, 1, 0));
        due("43: those who have some, by two", 8, () -> x.paid(1));
        x.days(1);
        due("11: 9999 at most", 9999, () -> x.pack(0, 1));
        due("11: and the LAMBS are gone", 87, () -> x.person(2, 2));
    }

    private static void packsEat() {
        WolfDeeds x = Told.winter("pack 5 5;pack 5 4;pack 0 0;pack 5 6;");
        x.days(1);
        long[] stores = {0, 0, 0, 1};
        long[] thin = {0, 1, 0, 0};
        for (int pack = 0; pack < 4; pack++) {
            int one = pack;
            due("11: STORE of PACK " + pack, stores[pack], () -> x.pack(one, 1));
            due("6: THIN so far, " + pack, thin[pack], () -> x.pack(one, 2));
        }
        x.days(2);
        long[] later = {2, 3, 0, 2};
        for (int pack = 0; pack < 4; pack++) {
            int one = pack;
            due("6: THIN behind 3 DAYS, " + pack, later[pack], () -> x.pack(one, 2));
        }
    }

    private static void peopleBurn() {
        WolfDeeds x = Told.winter("pack 0 0;house 0;child 0 9 0;child 0 9 1;child 0 9 2;rent 0;snow 9 0 1;");
        long[][] wood = {{0, 0, 1}, {0, 0, 1}, {0, 0, 0}, {0, 0, 0}};
        long[][] cold = {{1, 0, 0}, {1, 0, 0}, {2, 1, 0}, {3, 2, 1}};
        for (int day = 0; day < 4; day++) {
            x.days(1);
            for (int person = 0; person < 3; person++) {
                int one = person;
                due("11: WOOD behind DAY " + day, wood[day][person], () -> x.person(one, 3));
                due("8: COLD behind DAY " + day, cold[day][person], () -> x.person(one, 5));
            }
        }
    }

    private static void quarterMore() {
        WolfDeeds x = Told.winter("pack 0 0;house 0;child 0 0 0;child 0 3 0;child 0 4 0;child 0 79 0;child 0 80 0;child 0 99 0;rent 0;snow 0;");
        long[][] dues = {{0, 3, 4, 79, 80, 99}, {0, 3, 5, 98, 99, 99}, {0, 3, 5, 98, 99, 99}, {0, 3, 6, 99, 99, 99}};
        int[] gone = {6, 1, 6, 1};
        for (int i = 0; i < 4; i++) {
            x.days(gone[i]);
            for (int person = 0; person < 6; person++) {
                int one = person;
                due("11: LAMBS on DAY " + x.count(4), dues[i][person], () -> x.person(one, 2));
            }
        }
        WolfDeeds y = Told.winter("pack 0 0;house 0;child 0 8 0;rent day=6;snow 0;");
        y.days(7);
        due("11: a quarter of what is left", 8, () -> y.person(0, 2));
    }

    // ---- 12 to 16

    private static void payBounds() {
        WolfDeeds x = Told.winter("pack 0 9;pack 0 98;house 0;child 0 99 0;child 0 7 0;");
        for (int index : NO_INDEX) {
            Told.noSuch("12: no PERSON " + index, x, () -> x.pay(index, 0, 1));
            Told.noSuch("12: no PACK " + index, x, () -> x.pay(0, index, 1));
        }
        Told.noSuch("12: no PERSON 2, ahead", x, () -> x.pay(2, 0, 0));
        Told.noSuch("12: no PACK 2, ahead", x, () -> x.pay(0, 2, 100));
        int[] lambs = {0, 100, -1, Integer.MIN_VALUE, Integer.MAX_VALUE};
        for (int many : lambs) {
            Told.refused("12: " + many, x, 1, NO, () -> x.pay(0, 0, many));
        }
        Told.refused("12: more than he has", x, 1, NO, () -> x.pay(1, 0, 8));
        due("12: all that he has", 0, () -> x.pay(1, 1, 7));
        due("12: to another's PACK", 105, () -> x.pack(1, 1));
        due("12: not to his", 9, () -> x.pack(0, 1));
        Told.refused("12: he has none", x, 1, NO, () -> x.pay(1, 0, 1));
        due("12: one", 98, () -> x.pay(0, 0, 1));
        due("12: to his", 10, () -> x.pack(0, 1));
        due("12: who OWES nothing OWES nothing", 0, () -> x.person(0, 4));
        due("12: nor by paying another's", 0, () -> x.person(1, 4));
        Told.refused("12: 99 of 98", x, 1, NO, () -> x.pay(0, 0, 99));
        x.undo();
        due("12: 99", 0, () -> x.pay(0, 0, 99));
        due("12: two ACTS", 2, () -> x.count(7));
    }

    private static void gatherBounds() {
        WolfDeeds x = Told.winter("pack 0 9;house 0;child 0 9 0;child 0 9 98;child 0 9 99;");
        for (int index : NO_INDEX) {
            Told.noSuch("13: no PERSON " + index, x, () -> x.gather(index, 1));
        }
        Told.noSuch("13: no PERSON 3", x, () -> x.gather(3, 0));
        int[] wood = {0, 100, -1, Integer.MIN_VALUE, Integer.MAX_VALUE};
        for (int many : wood) {
            Told.refused("13: " + many, x, 1, NO, () -> x.gather(0, many));
        }
        due("13: one", 1, () -> x.gather(0, 1));
        due("13: 1 and 99", 99, () -> x.gather(0, 99));
        due("13: 98 and 1", 99, () -> x.gather(1, 1));
        x.undo();
        due("13: 98 and 2", 99, () -> x.gather(1, 2));
        due("13: 99 and 1 is an ACT, too", 99, () -> x.gather(2, 1));
        due("13: four ACTS", 4, () -> x.count(7));
        due("13: no refusal", 5, () -> x.count(11));
        x.undo();
        x.undo();
        due("13: 98 again", 98, () -> x.person(1, 3));
    }

    private static void lampBounds() {
        WolfDeeds x = Told.winter("pack 0 9;house 0;child 0 9 0;child 0 9 9;");
        for (int index : NO_INDEX) {
            Told.noSuch("14: no PERSON " + index, x, () -> Told.flag(x.lamp(index, true)));
            Told.noSuch("14: nor put out, " + index, x, () -> Told.flag(x.lamp(index, false)));
        }
        Told.noSuch("14: no PERSON 2", x, () -> Told.flag(x.lamp(2, false)));
        Told.refused("14: out at first", x, 1, 0, () -> Told.flag(x.lamp(1, false)));
        due("14: lit", 1, () -> Told.flag(x.lamp(1, true)));
        due("8: LAMP", 1, () -> x.person(1, 6));
        due("8: not the other's", 0, () -> x.person(0, 6));
        Told.refused("14: lit already", x, 1, 0, () -> Told.flag(x.lamp(1, true)));
        due("14: put out", 1, () -> Told.flag(x.lamp(1, false)));
        Told.refused("14: out already", x, 1, 0, () -> Told.flag(x.lamp(1, false)));
        due("14: two ACTS", 2, () -> x.count(7));
    }

    private static void favourBounds() {
        WolfDeeds x = Told.winter("pack 0 9;house 0;" + "wood 0;".repeat(8) + "child 0 9 0;child 0 9 9;");
        for (int index : NO_INDEX) {
            Told.noSuch("15: no PERSON " + index, x, () -> Told.flag(x.favour(index, 0, true)));
            Told.noSuch("15: no PLACE " + index, x, () -> Told.flag(x.favour(0, index, true)));
            Told.noSuch("15: no PLACE to take back, " + index, x, () -> Told.flag(x.favour(0, index, false)));
        }
        Told.noSuch("15: no PERSON 2", x, () -> Told.flag(x.favour(2, 0, false)));
        Told.noSuch("15: no PLACE 9", x, () -> Told.flag(x.favour(0, 9, false)));
        Told.refused("15: none at first", x, 1, 0, () -> Told.flag(x.favour(0, 8, false)));
        for (int place = 0; place < 9; place++) {
            int one = place;
            due("15: granted, " + place, 1, () -> Told.flag(x.favour(0, one, true)));
        }
        due("8: all FAVOURS", 511, () -> x.person(0, 7));
        due("8: the other's", 0, () -> x.person(1, 7));
        Told.refused("15: granted already, 0", x, 1, 0, () -> Told.flag(x.favour(0, 0, true)));
        Told.refused("15: granted already, 8", x, 1, 0, () -> Told.flag(x.favour(0, 8, true)));
        due("15: taken back, 8", 1, () -> Told.flag(x.favour(0, 8, false)));
        due("15: taken back, 0", 1, () -> Told.flag(x.favour(0, 0, false)));
        due("8: the others stay", 254, () -> x.person(0, 7));
        Told.refused("15: taken back already", x, 1, 0, () -> Told.flag(x.favour(0, 0, false)));
    }

    private static void undoBounds() {
        WolfDeeds x = Told.winter("pack 9 9;house 0;wood 0;child 0 50 1;rent 60;");
        Told.unchanged("16: there is none", x, NO, x::undo);
        String before = Told.portrait(x);
        x.days(30);
        x.track(1, 3);
        due("16: DAYS", 0, x::undo);
        due("16: TRACKS are no ACTS", 1, () -> x.count(8));
        x.forget();
        Told.same("16: DAYS are undone", before, Told.portrait(x));
        x.pay(0, 0, 50);
        due("16: PAYS", 0, x::undo);
        Told.same("16: it is undone", before, Told.portrait(x));
        x.gather(0, 99);
        due("16: GATHERS", 0, x::undo);
        Told.same("16: so is it", before, Told.portrait(x));
        x.lamp(0, true);
        due("16: a LAMP", 0, x::undo);
        Told.same("16: and it", before, Told.portrait(x));
        x.favour(0, 1, true);
        due("16: a FAVOUR", 0, x::undo);
        Told.same("16: and the last", before, Told.portrait(x));
        Told.unchanged("16: none again", x, NO, x::undo);
        x.days(0);
        due("16: a refused one is no ACT", NO, x::undo);
        due("16: STATUS isn't undone", 1, () -> x.count(11));
    }

    private static void fortyActs() {
        WolfDeeds x = Told.winter("pack 0 9;house 0;child 0 9 0;");
        for (int i = 1; i <= 40; i++) {
            int kept = i;
            x.gather(0, 1);
            due("5: ACTS that are kept", kept, () -> x.count(7));
        }
        for (int i = 39; i >= 0; i--) {
            int left = i;
            due("16: of 40", left, x::undo);
            due("16: WOOD then", left, () -> x.person(0, 3));
        }
        due("16: none of 40", NO, x::undo);
        for (int i = 0; i < 41; i++) {
            x.gather(0, 1);
        }
        due("5: 40 at most", 40, () -> x.count(7));
        for (int i = 39; i >= 0; i--) {
            int left = i;
            due("16: of 41", left, x::undo);
        }
        due("16: the first isn't kept", NO, x::undo);
        due("16: WOOD of it", 1, () -> x.person(0, 3));
        for (int i = 0; i < 95; i++) {
            x.gather(0, 1);
        }
        for (int i = 0; i < 50; i++) {
            x.undo();
        }
        due("16: 40 of 96", 56, () -> x.person(0, 3));
    }

    private static void undoneLastFirst() {
        WolfDeeds x = Told.winter("pack 1 9;house 0;wood 0;child 0 9 0;");
        x.gather(0, 5);
        x.days(1);
        x.pay(0, 0, 2);
        x.lamp(0, true);
        x.favour(0, 1, true);
        due("16: the FAVOUR first", 4, x::undo);
        due("16: no FAVOUR", 0, () -> x.person(0, 7));
        due("16: the LAMP still", 1, () -> x.person(0, 6));
        due("16: the LAMP", 3, x::undo);
        due("16: the LAMBS not yet", 6, () -> x.person(0, 2));
        due("16: PAYS", 2, x::undo);
        due("16: the LAMBS", 8, () -> x.person(0, 2));
        due("16: the DAY not yet", 1, () -> x.count(4));
        due("16: the DAY", 1, x::undo);
        due("16: DAY 0", 0, () -> x.count(4));
        due("16: the WOOD not yet", 5, () -> x.person(0, 3));
        due("16: the WOOD", 0, x::undo);
        due("16: none", 0, () -> x.person(0, 3));
    }
}
