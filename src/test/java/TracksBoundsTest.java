/** TRACKS, BARGAINS, FROSTS, WINTERS: promises 30 to 37 and the Terms' fourth row, at each boundary that a sentence names. */
public final class TracksBoundsTest {
    private static final long NO = -1;
    private static final int[] NO_INDEX = {-1, Integer.MIN_VALUE, Integer.MAX_VALUE, 32};
    private static final int[] NO_HOUR = {-1, 72, Integer.MIN_VALUE, Integer.MAX_VALUE};
    /** Four places in a row, 2, 3 and 4 hours apart, and a wood that no path leads to; a house at each end. */
    private static final String ROW = "pack 0 9;house 0;wood 0;wood 0;house 0;wood 0;path 0 1 2;path 1 2 3;path 2 3 4;"
        + "squire 0 9 9;child 3 9 9;right 0;";

    private TracksBoundsTest() {
    }

    public static void main(String[] args) {
        trackBounds();
        sixTracks();
        forgets();
        suspectsJustInTime();
        suspectsFarAway();
        suspectsOfOneHour();
        alibiBounds();
        alibiByHours();
        lookBounds();
        lookMostEvenly();
        bargainBounds();
        bargainRests();
        frostsBounds();
        frostsLikely();
        wintersBounds();
        wintersHunger();
        wintersDraws();
        Told.end();
    }

    private static void due(String what, long want, Told.Call call) {
        Told.due(what, want, call);
    }

    // ---- 30, 31

    private static void trackBounds() {
        WolfDeeds x = Told.winter(ROW);
        for (int index : NO_INDEX) {
            Told.noSuch("30: no PLACE " + index, x, () -> x.track(index, 0));
        }
        Told.noSuch("30: no PLACE 5, ahead", x, () -> x.track(5, 72));
        for (int hour : NO_HOUR) {
            Told.refused("30: HOUR " + hour, x, 2, NO, () -> x.track(0, hour));
        }
        due("30: HOUR 0", 1, () -> x.track(0, 0));
        due("30: HOUR 71", 2, () -> x.track(4, 71));
        due("8: TRACKS", 2, () -> x.count(8));
    }

    private static void sixTracks() {
        WolfDeeds x = Told.winter(ROW);
        for (int i = 1; i <= 6; i++) {
            int told = i;
            due("30: how many there are", told, () -> x.track(0, 5));
        }
        Told.refused("30: there are 6", x, 2, NO, () -> x.track(0, 5));
        Told.refused("30: 6, and no HOUR", x, 2, NO, () -> x.track(0, 72));
        Told.noSuch("30: 6, and no PLACE", x, () -> x.track(5, 5));
        due("5: 6 TRACKS", 6, () -> x.count(8));
    }

    private static void forgets() {
        WolfDeeds x = Told.winter(ROW);
        x.forget();
        due("31: there were none", 0, () -> x.count(8));
        for (int i = 0; i < 6; i++) {
            x.track(4, 0);
        }
        due("32: nobody", 0, x::suspects);
        x.forget();
        due("31: all six", 0, () -> x.count(8));
        due("32: all again", 3, x::suspects);
        due("30: the first again", 1, () -> x.track(0, 0));
    }

    // ---- 32: SUSPECTS

    private static void suspectsAre(int place, int hour, int want) {
        WolfDeeds x = Told.winter(ROW);
        x.track(place, hour);
        Told.unchanged("32: at " + place + " in HOUR " + hour, x, want, x::suspects);
    }

    private static void suspectsJustInTime() {
        WolfDeeds x = Told.winter(ROW);
        Told.unchanged("32: without TRACKS all", x, 3, x::suspects);
        suspectsAre(0, 0, 1);
        suspectsAre(3, 0, 2);
        suspectsAre(1, 0, 0);
        suspectsAre(1, 1, 0);
        suspectsAre(1, 2, 1);
        suspectsAre(1, 6, 1);
        suspectsAre(1, 7, 3);
        suspectsAre(0, 8, 1);
        suspectsAre(0, 9, 3);
        suspectsAre(0, 71, 3);
        suspectsAre(4, 71, 0);
        WolfDeeds y = Told.winter(ROW);
        y.track(1, 7);
        y.track(2, 9);
        due("32: two HOURS for three", 0, y::suspects);
        WolfDeeds z = Told.winter(ROW);
        z.track(1, 7);
        z.track(2, 10);
        due("32: three HOURS for three", 3, z::suspects);
        z.track(0, 15);
        due("32: waiting, and back by five", 3, z::suspects);
        z.track(0, 14);
        due("32: not by four", 0, z::suspects);
    }

    private static void suspectsFarAway() {
        StringBuilder text = new StringBuilder("pack 0 9;house 0;" + "wood 0;".repeat(8) + "child 0 9 9;path 0 1 8;");
        for (int i = 1; i < 8; i++) {
            text.append("path ").append(i).append(' ').append(i + 1).append(" 9;");
        }
        WolfDeeds x = Told.winter(text.toString());
        x.track(8, 71);
        due("32: 71 HOURS till HOUR 71", 1, x::suspects);
        due("33: none", NO, () -> x.alibi(0));
        WolfDeeds y = Told.winter(text.toString().replace("path 0 1 8", "path 0 1 9"));
        y.track(8, 71);
        due("32: 72 HOURS", 0, y::suspects);
        due("33: the only one", 0, () -> y.alibi(0));
    }

    private static void suspectsOfOneHour() {
        WolfDeeds x = Told.winter(ROW);
        x.track(1, 20);
        x.track(1, 20);
        due("32: at one PLACE", 3, x::suspects);
        x.track(2, 20);
        due("32: at unlike PLACES nobody", 0, x::suspects);
        due("33: the later told one", 2, () -> x.alibi(0));
        WolfDeeds y = Told.winter("pack 0 0;house 0;wood 0;child 0 0 0;path 0 1 1;");
        y.track(0, 0);
        y.track(1, 0);
        due("32: HOME and another in HOUR 0", 0, y::suspects);
    }

    // ---- 33: AN ALIBI

    private static void alibiBounds() {
        WolfDeeds x = Told.winter(ROW);
        x.track(1, 2);
        for (int index : NO_INDEX) {
            Told.noSuch("33: no PERSON " + index, x, () -> x.alibi(index));
        }
        Told.noSuch("33: no PERSON 2", x, () -> x.alibi(2));
        Told.unchanged("33: none", x, NO, () -> x.alibi(0));
        Told.unchanged("33: the first", x, 0, () -> x.alibi(1));
        x.forget();
        due("33: none without TRACKS", NO, () -> x.alibi(1));
    }

    private static void alibiByHours() {
        WolfDeeds x = Told.winter(ROW);
        x.track(3, 60);
        x.track(2, 50);
        x.track(0, 49);
        x.track(0, 40);
        x.track(0, 9);
        x.track(3, 8);
        due("33: the last told is the first by HOURS", 5, () -> x.alibi(0));
        due("33: behind it", 4, () -> x.alibi(1));
        WolfDeeds y = Told.winter(ROW);
        y.track(2, 9);
        y.track(1, 9);
        y.track(0, 9);
        due("33: of like ones as told", 1, () -> y.alibi(0));
        due("33: both go by the first", 1, () -> y.alibi(1));
        WolfDeeds z = Told.winter(ROW);
        z.track(4, 71);
        z.track(0, 9);
        z.track(3, 18);
        z.track(3, 19);
        due("33: the sixth can't be reached", 0, () -> z.alibi(0));
        due("33: nor by the other", 0, () -> z.alibi(1));
    }

    // ---- 34: LOOK NEXT

    private static void lookBounds() {
        WolfDeeds x = Told.winter(ROW);
        for (int hour : NO_HOUR) {
            Told.illegal("34: HOUR " + hour, x, () -> x.look(hour));
        }
        Told.unchanged("34: HOUR 0", x, 0, () -> x.look(0));
        Told.unchanged("34: HOUR 71", x, 0, () -> x.look(71));
        WolfDeeds none = Told.winter("pack 0 0;");
        Told.unchanged("34: no PLACES", none, NO, () -> none.look(0));
        Told.illegal("34: no PLACES, no HOUR", none, () -> none.look(72));
        WolfDeeds nobody = Told.winter("pack 0 0;wood 0;wood 0;");
        Told.unchanged("34: nobody, the least", nobody, 0, () -> nobody.look(5));
    }

    private static void lookMostEvenly() {
        WolfDeeds x = Told.winter(ROW);
        due("34: HOUR 1, HOME of one", 0, () -> x.look(1));
        due("34: HOUR 8", 0, () -> x.look(8));
        due("34: HOUR 9, but 2 and 4 part none or all", 0, () -> x.look(9));
        WolfDeeds y = Told.winter("pack 0 0;wood 0;wood 0;house 0;house 0;path 2 0 2;path 3 1 2;path 0 1 2;child 2 0 0;child 3 0 0;child 3 0 0;child 3 0 0;");
        due("34: all or none part worst, HOUR 2", 0, () -> y.look(2));
        due("34: HOUR 4, both by all", 2, () -> y.look(4));
        due("34: HOUR 6, no one parted", 0, () -> y.look(6));
        WolfDeeds z = Told.winter("pack 0 0;wood 0;house 0;house 0;path 1 0 1;path 2 0 1;child 1 0 0;child 2 0 0;child 2 0 0;child 1 0 0;");
        due("34: two and two", 1, () -> z.look(1));
        z.track(2, 0);
        due("34: of two SUSPECTS all or none", 0, () -> z.look(1));
        z.forget();
        for (int i = 0; i < 6; i++) {
            z.track(0, 71);
        }
        Told.unchanged("34: behind six TRACKS", z, 1, () -> z.look(1));
        Told.refused("34: there are still 6", z, 2, NO, () -> z.track(0, 71));
    }

    // ---- 35: BARGAINS

    private static void bargainBounds() {
        WolfDeeds x = Told.winter("pack 5 4;house 0;child 0 9 9;");
        for (int index : NO_INDEX) {
            Told.noSuch("35: no PERSON " + index, x, () -> x.bargain(index, 0, 1, 0));
            Told.noSuch("35: no PACK " + index, x, () -> x.bargain(0, index, 1, 0));
            Told.noSuch("35: what " + index, x, () -> x.bargain(0, 0, 1, index));
        }
        Told.noSuch("35: no PERSON 1, ahead", x, () -> x.bargain(1, 0, 0, 0));
        Told.noSuch("35: no PACK 1, ahead", x, () -> x.bargain(0, 1, 100, 0));
        Told.noSuch("35: what 2, ahead", x, () -> x.bargain(0, 0, 0, 2));
        int[] lambs = {0, 100, -1, Integer.MIN_VALUE, Integer.MAX_VALUE};
        for (int many : lambs) {
            Told.illegal("35: " + many + " LAMBS", x, () -> x.bargain(0, 0, many, 0));
        }
    }

    private static void bargainRests() {
        WolfDeeds x = Told.winter("pack 5 4;pack 5 5;house 0;child 0 99 9;child 0 0 9;child 0 1 9;");
        int[] lambs = {1, 2, 4, 9, 10, 11, 98, 99};
        for (int many : lambs) {
            for (int person = 0; person < 3; person++) {
                for (int pack = 0; pack < 2; pack++) {
                    int who = person;
                    int its = pack;
                    Told.unchanged("35: one rests", x, 1, () -> x.bargain(who, its, many, 0));
                    Told.unchanged("35: 0 and 0", x, 0, () -> x.bargain(who, its, many, 1));
                }
            }
        }
    }

    // ---- 36: FROSTS

    private static void frostsBounds() {
        WolfDeeds x = new WolfDeeds();
        int[] whats = {-1, 2, Integer.MIN_VALUE, Integer.MAX_VALUE};
        for (int what : whats) {
            Told.noSuch("36: what " + what, x, () -> x.frosts(5, 5, 5, what));
            Told.noSuch("36: ahead, what " + what, x, () -> x.frosts(-1, 0, 10, what));
        }
        int[] tenths = {-1, 11, Integer.MIN_VALUE, Integer.MAX_VALUE};
        for (int many : tenths) {
            Told.illegal("36: tenths " + many, x, () -> x.frosts(many, 5, 5, 0));
        }
        int[] days = {0, -1, 10, Integer.MIN_VALUE, Integer.MAX_VALUE};
        for (int many : days) {
            Told.illegal("36: DAYS " + many, x, () -> x.frosts(5, many, 5, 1));
        }
        int[] frosty = {-1, 10, Integer.MIN_VALUE, Integer.MAX_VALUE};
        for (int many : frosty) {
            Told.illegal("36: so many " + many, x, () -> x.frosts(5, 5, many, 0));
        }
    }

    private static void frostsLikely() {
        WolfDeeds x = new WolfDeeds();
        long[][] dues = {{0, 1, 0, 1, 1}, {0, 1, 1, 0, 1}, {0, 9, 9, 0, 1}, {10, 1, 1, 1, 1}, {10, 9, 9, 1, 1}, {10, 8, 9, 0, 1}, {1, 1, 1, 1, 10},
            {9, 1, 1, 9, 10}, {5, 1, 0, 1, 1}, {5, 1, 1, 1, 2}, {5, 1, 2, 0, 1}, {4, 2, 2, 4, 25}, {4, 2, 1, 16, 25}, {5, 9, 9, 1, 512},
            {5, 9, 5, 1, 2}, {5, 9, 1, 511, 512}, {5, 9, 8, 5, 256}, {1, 9, 9, 1, 1000000000}, {9, 9, 1, 999999999, 1000000000},
            {9, 9, 9, 387420489, 1000000000}, {1, 9, 1, 612579511, 1000000000}, {2, 9, 9, 1, 1953125}, {3, 3, 3, 27, 1000}};
        for (long[] d : dues) {
            String call = d[0] + " tenths, " + d[1] + " DAYS, " + d[2];
            Told.unchanged("36: upper part, " + call, x, d[3], () -> x.frosts((int) d[0], (int) d[1], (int) d[2], 0));
            Told.unchanged("36: lower part, " + call, x, d[4], () -> x.frosts((int) d[0], (int) d[1], (int) d[2], 1));
        }
    }

    // ---- 37: WINTERS by a seed

    private static void wintersBounds() {
        WolfDeeds x = Told.winter("pack 1 0;house 0;child 0 9 0;rent 0;");
        int[] whats = {-1, 3, Integer.MIN_VALUE, Integer.MAX_VALUE};
        for (int what : whats) {
            Told.noSuch("37: what " + what, x, () -> x.winters(1, 1, what));
            Told.noSuch("37: ahead, what " + what, x, () -> x.winters(1, 61, what));
        }
        int[] days = {-1, 61, Integer.MIN_VALUE, Integer.MAX_VALUE};
        for (int n : days) {
            Told.illegal("37: n " + n, x, () -> x.winters(1, n, 0));
        }
        long[] none = {0, 0, 9};
        for (int what = 0; what < 3; what++) {
            int asked = what;
            Told.unchanged("37: n 0", x, none[what], () -> x.winters(7, 0, asked));
        }
        WolfDeeds nobody = new WolfDeeds();
        for (int what = 0; what < 3; what++) {
            int asked = what;
            Told.unchanged("37: nobody", nobody, 0, () -> nobody.winters(-1, 60, asked));
        }
    }

    private static void lambsBehind(String text, int seed, int... dues) {
        WolfDeeds x = Told.winter(text);
        for (int n = 0; n < dues.length; n++) {
            int days = n;
            Told.unchanged("37: LAMBS by seed " + seed + " behind " + n, x, dues[n], () -> x.winters(seed, days, 2));
        }
    }

    /** With one PACK seed 26 draws (SNOW, turn) 2 0, 2 0, 5 0, 8 0; 15: 8 0, 0 1, 1 2, 2 1; 23: 3 1, 6 0, 7 0, 0 1; 9: 2 1, 1 1, 7 1, 5 2. */
    private static void wintersHunger() {
        String most = "pack 20 99;house 0;child 0 99 99;rent hunger;";
        lambsBehind(most, 26, 99, 79, 59, 39, 19);
        lambsBehind(most, 15, 99, 79, 60, 41, 23);
        lambsBehind("pack 19 99;house 0;child 0 99 99;rent hunger;", 26, 99, 79, 59, 39, 19);
        String least = "pack 0 0;house 0;child 0 99 99;rent hunger;";
        lambsBehind(least, 23, 99, 99, 98, 96, 95);
        lambsBehind(least, 9, 99, 99, 99, 99, 99);
        lambsBehind("pack 1 0;house 0;child 0 99 99;rent hunger;", 9, 99, 99, 99, 99, 99);
        lambsBehind("pack 2 0;house 0;child 0 99 99;rent hunger;", 9, 99, 98, 98, 98, 98);
        WolfDeeds x = Told.winter(most);
        x.winters(26, 60, 0);
        due("37: its HUNGER is as it was", 20, () -> x.pack(0, 0));
        WolfDeeds y = Told.winter("pack 0 0;house 0;child 0 9 99;rent 0;");
        long[] thin = {0, 0, 1, 2, 3};
        for (int n = 0; n < 5; n++) {
            int days = n;
            due("37: THIN by HUNGER of then, " + n, thin[n], () -> y.winters(23, days, 1));
        }
        // Of two PACKS seed 1 draws (PACK, turn) 0 0, 1 2, 1 0, and seed 2 draws 1 0, 1 2, 1 1, 1 0.
        WolfDeeds noPlaces = Told.winter("pack 0 0;pack 0 0;");
        long[][] thinDays = {{0, 1, 2, 3}, {0, 1, 2, 2, 3}};
        for (int seed = 1; seed <= 2; seed++) {
            for (int n = 0; n < thinDays[seed - 1].length; n++) {
                int one = seed;
                int days = n;
                due("37: THIN without PLACES, " + n, thinDays[seed - 1][n], () -> noPlaces.winters(one, days, 1));
            }
        }
    }

    /** Seed 0 draws SNOW 0, 7, 5, 0 with one PACK; seed 3, of four, PACK 3 with turn 0, then PACK 2 with turn 1. */
    private static void wintersDraws() {
        WolfDeeds x = Told.winter("pack 0 0;house 0;child 0 9 0;child 0 9 0;rent 0;snow 9;");
        long[] cold = {0, 0, 1, 2, 2};
        for (int n = 0; n < 5; n++) {
            int days = n;
            due("37: DAYS on which somebody is COLD, " + n, cold[n], () -> x.winters(0, days, 0));
        }
        WolfDeeds both = Told.winter("pack 9 0;pack 9 0;house 0;child 0 9 0;child 0 9 0;rent 0;");
        due("37: DAYS on which both are THIN", 4, () -> both.winters(5, 4, 1));
        due("37: COLD by SNOW 5, 7, 4, 0", 3, () -> x.winters(5, 4, 0));
        String four = "pack 5 0;pack 5 0;pack 5 0;pack 5 0;";
        lambsBehind(four + "house 3;child 0 99 99;rent hunger;", 3, 99, 93, 87);
        lambsBehind(four + "house 2;child 0 99 99;rent hunger;", 3, 99, 94, 90);
        lambsBehind(four + "house 0;child 0 99 99;rent hunger;", 3, 99, 94, 89);
        lambsBehind("pack 0 0;house 0;child 0 99 99;rent snow;", 0, 99, 99, 92, 87, 87);
        lambsBehind("pack 0 0;house 0;child 0 4 99;rent 0;", 5, 4, 4, 4, 4, 4, 4, 4, 5, 5);
        int[] seeds = {0, 1, -1, Integer.MIN_VALUE, Integer.MAX_VALUE, 12345, -987654321};
        long[] coldDays = {54, 54, 54, 54, 54, 55, 52};
        long[] thinDays = {44, 60, 52, 44, 52, 38, 49};
        WolfDeeds y = Told.winter("pack 0 0;house 0;child 0 9 0;rent 0;");
        for (int i = 0; i < seeds.length; i++) {
            int seed = seeds[i];
            due("37: COLD in 60 DAYS by " + seed, coldDays[i], () -> y.winters(seed, 60, 0));
            due("37: THIN in 60 DAYS by " + seed, thinDays[i], () -> y.winters(seed, 60, 1));
        }
        WolfDeeds z = Told.winter("snow 0;");
        for (int i = 0; i < 34; i++) {
            z.days(i < 33 ? 30 : 9);
        }
        due("37: DAYS beyond the last one", 0, () -> z.winters(1, 60, 1));
    }
}
