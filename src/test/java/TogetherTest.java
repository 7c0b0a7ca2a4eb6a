/**
 * How calls bear on one another: a winter as full as it may be, ACTS that change what they say and nothing else, and
 * questions that leave nothing behind for those asked later. Answers worked out by hand.
 */
public final class TogetherTest {
    private static final long NO = -1;
    /** As many PACKS, PLACES and PEOPLE as there may be, each with numbers of its own. */
    private static final String FULL = "pack 3 11;pack 1 22;pack 2 33;pack 20 19;"
        + "house 0;house 1;house 2;house 3;house 0;house 1;field 2;edge 3;wood 0;"
        + "squire 0 40 20;doctor 1 41 21;widow 2 42 22;child 3 43 23;squire 4 44 24;doctor 5 45 2;";
    /** A road of four places with a house at each end; on DAY 0 SNOW 2 is DUE, on DAY 1 nothing; a RIGHT that ends on DAY 2. */
    private static final String ROAD = "pack 1 9;house 0;wood 0;edge 0;house 0;path 0 1 1;path 1 2 1;path 2 3 1;"
        + "squire 0 9 2;child 3 1 3;snow 2 0 5;rent snow;right day<2 or lamp and kind=3;";

    private TogetherTest() {
    }

    public static void main(String[] args) {
        fullWinter();
        paysAlone();
        gathersAlone();
        lampsAndFavoursAlone();
        daysAlone();
        tracksAlone();
        askedBetween();
        debtorBetween();
        undoneBetween();
        imageBetween();
        Told.end();
    }

    private static void due(String what, long want, Told.Call call) {
        Told.due(what, want, call);
    }

    // ---- a winter as full as it may be

    private static void people(WolfDeeds x, int what, long... dues) {
        for (int person = 0; person < dues.length; person++) {
            int one = person;
            due("8: person(" + person + ", " + what + ")", dues[person], () -> x.person(one, what));
        }
    }

    private static void packs(WolfDeeds x, int what, long... dues) {
        for (int pack = 0; pack < dues.length; pack++) {
            int one = pack;
            due("6: pack(" + pack + ", " + what + ")", dues[pack], () -> x.pack(one, what));
        }
    }

    /** A FAVOUR for each, two LAMPS, and a week: nine ACTS. */
    private static WolfDeeds weekLater() {
        WolfDeeds x = Told.winter(FULL);
        for (int person = 0; person < 6; person++) {
            int one = person;
            due("15: a FAVOUR of each", 1, () -> Told.flag(x.favour(one, 8 - one, true)));
        }
        due("14: the last one's LAMP", 1, () -> Told.flag(x.lamp(5, true)));
        due("14: the third one's LAMP", 1, () -> Told.flag(x.lamp(2, true)));
        due("11: a week", 7, () -> x.days(7));
        return x;
    }

    private static void fullWinter() {
        String before = Told.portrait(Told.winter(FULL));
        WolfDeeds x = weekLater();
        people(x, 2, 41, 42, 43, 45, 46, 47);
        people(x, 3, 13, 14, 15, 16, 17, 0);
        people(x, 4, 0, 0, 0, 0, 0, 0);
        people(x, 5, 0, 0, 0, 0, 0, 5);
        people(x, 6, 0, 0, 1, 0, 0, 1);
        people(x, 7, 256, 128, 64, 32, 16, 8);
        packs(x, 0, 3, 1, 2, 20);
        packs(x, 1, 4, 29, 26, 0);
        packs(x, 2, 0, 0, 0, 6);
        String behind = Told.portrait(x);
        x.image();
        for (int i = 8; i >= 0; i--) {
            int left = i;
            due("16: of nine ACTS", left, x::undo);
        }
        Told.same("16: all as it was", before, Told.portrait(x));
        due("47: restored", 1, () -> Told.flag(x.restore()));
        Told.same("47: all as the image", behind, Told.portrait(x));
    }

    // ---- ACTS and TRACKS change what they say, and nothing else

    private static void changes(String what, WolfDeeds x, String want, long answer, Told.Call call) {
        String before = Told.portrait(x);
        due(what, answer, call);
        Told.same(what + " changes no more", want, Told.changes(before, Told.portrait(x)));
    }

    private static void changesUntilUndone(String what, WolfDeeds x, String want, long answer, Told.Call call) {
        String before = Told.portrait(x);
        changes(what, x, want, answer, call);
        due(what + " is undone", 9, x::undo);
        Told.same("16: nothing is left of " + what, before, Told.portrait(x));
    }

    private static void paysAlone() {
        WolfDeeds x = weekLater();
        changesUntilUndone("12: to his PACK", x, "counts0.6 264>257, counts0.7 9>10, pack1.1 29>36, person5.2 47>40", 40, () -> x.pay(5, 1, 7));
        changesUntilUndone("12: less than he was COLD", x, "counts0.6 264>261, counts0.7 9>10, pack1.1 29>32, person5.2 47>44", 44, () -> x.pay(5, 1, 3));
        changesUntilUndone("12: less than his WOOD", x, "counts0.6 264>261, counts0.7 9>10, pack0.1 4>7, person4.2 46>43", 43, () -> x.pay(4, 0, 3));
        changesUntilUndone("12: to another's", x, "counts0.6 264>221, counts0.7 9>10, pack3.1 0>43, person2.2 43>0", 0, () -> x.pay(2, 3, 43));
        WolfDeeds y = Told.winter(ROAD);
        y.days(1);
        changes("12: the other one OWES", y, "counts0.6 7>2, counts0.7 1>2, pack0.1 11>16, person0.2 7>2", 2, () -> y.pay(0, 0, 5));
        WolfDeeds z = Told.winter("pack 0 0;house 0;child 0 0 0;child 0 9 0;rent 3;snow 0;");
        z.days(1);
        due("23: what he will OWE", 21, () -> z.then(1, 9, 2));
        changes("12: another one's debt stays", z, "counts0.6 6>4, counts0.7 1>2, pack0.1 3>5, person1.2 6>4", 4, () -> z.pay(1, 0, 2));
    }

    private static void gathersAlone() {
        WolfDeeds x = weekLater();
        changesUntilUndone("13: from none", x, "counts0.7 9>10, person5.3 0>9", 9, () -> x.gather(5, 9));
        changesUntilUndone("13: up to 99", x, "counts0.7 9>10, person0.3 13>99", 99, () -> x.gather(0, 99));
    }

    private static void lampsAndFavoursAlone() {
        WolfDeeds x = weekLater();
        changesUntilUndone("14: put out", x, "counts0.7 9>10, person5.6 1>0", 1, () -> Told.flag(x.lamp(5, false)));
        changesUntilUndone("14: lit", x, "counts0.7 9>10, person0.6 0>1", 1, () -> Told.flag(x.lamp(0, true)));
        changesUntilUndone("15: taken back", x, "counts0.7 9>10, person5.7 8>0", 1, () -> Told.flag(x.favour(5, 3, false)));
        changesUntilUndone("15: granted", x, "counts0.7 9>10, person0.7 256>257", 1, () -> Told.flag(x.favour(0, 0, true)));
    }

    private static void daysAlone() {
        WolfDeeds x = weekLater();
        changesUntilUndone("11: a DAY", x, "counts0.4 7>8, counts0.6 264>258, counts0.7 9>10, pack0.1 4>3, pack1.1 29>30, pack2.1 26>25, pack3.2 6>7, "
            + "person0.2 41>40, person0.3 13>12, person1.2 42>41, person1.3 14>13, person2.2 43>42, person2.3 15>14, "
            + "person3.2 45>44, person3.3 16>15, person4.2 46>45, person4.3 17>16, person5.2 47>46, person5.5 5>6", 8, () -> x.days(1));
    }

    private static void tracksAlone() {
        WolfDeeds x = weekLater();
        changes("30: a TRACK", x, "counts0.8 0>1, person1.10 -1>0, person2.10 -1>0, person3.10 -1>0, person4.10 -1>0, person5.10 -1>0",
            1, () -> x.track(0, 3));
        changes("30: another one", x, "counts0.8 1>2, person0.10 -1>1", 2, () -> x.track(1, 3));
        changes("16: an ACT of nine", x, "counts0.4 7>0, counts0.6 264>255, counts0.7 9>8, pack0.1 4>11, pack1.1 29>22, pack2.1 26>33, pack3.1 0>19, "
            + "pack3.2 6>0, person0.2 41>40, person0.3 13>20, person1.2 42>41, person1.3 14>21, person2.2 43>42, person2.3 15>22, "
            + "person3.2 45>43, person3.3 16>23, person4.2 46>44, person4.3 17>24, person5.2 47>45, person5.3 0>2, person5.5 5>0", 8, x::undo);
        changes("31: forgotten", x, "counts0.8 2>0, person0.10 1>-1, person1.10 0>-1, person2.10 0>-1, person3.10 0>-1, person4.10 0>-1, "
            + "person5.10 0>-1", 0, () -> {
                x.forget();
                return 0;
            });
    }

    // ---- what was asked, undone or restored leaves nothing behind

    /** DAY 1 of ROAD, when the child OWES 1 and all places are open. */
    private static void isDayOne(String behind, WolfDeeds x) {
        due("5: SNOW of DAY 1, " + behind, 0, () -> x.count(5));
        due("8: DUE on DAY 1, " + behind, 0, () -> x.person(0, 8));
        due("10: RIGHT on DAY 1, " + behind, 1, () -> Told.flag(x.right(0, 1, 3)));
        due("17: THE WAY, " + behind, 5, () -> x.way(0, 2, 3));
        due("18: ERRANDS, " + behind, 7, () -> x.errands(0, 6, 3));
        due("19: REACH, " + behind, 7, () -> x.reach(0, 3, 2));
        due("20: A MEETING, " + behind, 1, () -> x.meeting(0, 1, 3, 0));
        due("20: when, " + behind, 5, () -> x.meeting(0, 1, 3, 1));
        due("20: and turned, " + behind, 5, () -> x.meeting(1, 0, 3, 1));
        due("21: ASKED, " + behind, 0, () -> x.asked(0, 2, 3));
        due("28: WOOD for two DAYS, " + behind, 0, () -> x.wood(0, 2));
        due("28: WOOD for five DAYS, " + behind, 2, () -> x.wood(0, 5));
        due("29: THE EDGE, " + behind, 2, () -> x.edge(0, 3));
        due("38: OPEN, " + behind, 24, () -> x.open(0, 1));
        due("39: CLOSED, " + behind, 0, x::closed);
        due("40: no BREACH, " + behind, NO, () -> x.breach(0, 3, 3));
        due("44: THE DEBTOR, " + behind, 1, x::debtor);
        due("23: LAMBS now, " + behind, 7, () -> x.then(0, 0, 0));
        due("23: OWES now, " + behind, 1, () -> x.then(1, 0, 2));
        due("43: PAID in no DAYS, " + behind, 0, () -> x.paid(0));
        due("25: LASTS, " + behind, 1, x::lasts);
    }

    private static WolfDeeds dayOne() {
        WolfDeeds x = Told.winter(ROAD);
        x.days(1);
        isDayOne("at first", x);
        return x;
    }

    private static void askedBetween() {
        WolfDeeds x = dayOne();
        Told.Call[] questions = {() -> x.then(1, 99, 3), () -> x.packThen(0, 98, 1), x::lasts, () -> x.fairest(5), () -> x.needed(30), () -> x.firstCold(0),
            () -> x.firstThin(1), () -> x.paid(97), () -> x.winters(7, 60, 0), () -> x.way(1, 0, 9), () -> x.errands(1, 15, 9), () -> x.look(5),
            () -> x.bargain(0, 0, 5, 0), () -> x.frosts(5, 9, 4, 0)};
        String before = Told.portrait(x);
        for (int i = 0; i < questions.length; i++) {
            questions[i].answer();
            Told.same("23: question " + i + " changes nothing", before, Told.portrait(x));
            isDayOne("question " + i, x);
        }
    }

    private static void debtorBetween() {
        WolfDeeds x = Told.winter("pack 0 0;house 0;child 0 1 0;child 0 0 0;child 0 0 0;rent 2;snow 0;");
        x.days(1);
        due("44: OWES 2 of 1, 2, 2", 1, x::debtor);
        due("23: OWES then", 101, () -> x.then(0, 50, 2));
        due("44: OWES most as it is", 1, x::debtor);
    }

    private static void undoneBetween() {
        WolfDeeds x = dayOne();
        String before = Told.portrait(x);
        x.days(5);
        due("21: no RIGHT on DAY 6", 2, () -> x.asked(0, 2, 3));
        due("17: nor a way then", NO, () -> x.way(0, 2, 3));
        due("44: the child OWES more", 1, x::debtor);
        due("16: undone", 1, x::undo);
        isDayOne("DAYS undone", x);
        x.lamp(1, true);
        x.favour(0, 2, true);
        x.days(3);
        x.undo();
        x.undo();
        x.undo();
        Told.same("16: all undone", before, Told.portrait(x));
        isDayOne("three ACTS undone", x);
    }

    private static void imageBetween() {
        WolfDeeds x = dayOne();
        String before = Told.portrait(x);
        x.then(0, 9, 0);
        x.winters(3, 9, 0);
        x.image();
        x.days(4);
        x.gather(1, 5);
        x.lasts();
        due("47: restored", 1, () -> Told.flag(x.restore()));
        Told.same("47: as it was", before, Told.portrait(x));
        isDayOne("restored", x);
        due("16: the DAY ahead of the image", 0, x::undo);
        due("5: DAY 0", 0, () -> x.count(4));
        due("5: SNOW of DAY 0", 2, () -> x.count(5));
        due("8: DUE of DAY 0", 2, () -> x.person(1, 8));
        due("44: nobody OWES", NO, x::debtor);
    }
}
