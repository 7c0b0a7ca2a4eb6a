/**
 * The tape and the TEXT: promises 1 to 4 and the Terms' first row, sentence by sentence, at each boundary that it names.
 * A @ in a text stands ahead of the byte at which the FAULT is due, and isn't fed.
 */
public final class TextBoundsTest {
    private static final long NO = -1;
    private static final String LAND = "pack 0 0;house 0;wood 0;house 0;";

    private TextBoundsTest() {
    }

    public static void main(String[] args) {
        newObject();
        feedTwentyBytes();
        feedHighestFirst();
        feedFull();
        winterOfSoManyBytes();
        winterAllAnew();
        winterWithFault();
        winterNotSoMany();
        faultPlaces();
        tokens();
        endsTooSoon();
        cantStandThere();
        tooGreatNumbers();
        tooManyLines();
        notTold();
        badPaths();
        seconds();
        noHouses();
        firstAndLeast();
        exprCantStand();
        exprTooMuch();
        exprNoValue();
        snowByDays();
        Told.end();
    }

    private static void due(String what, long want, Told.Call call) {
        Told.due(what, want, call);
    }

    /** A TEXT with a FAULT at the place of its @, or (number 0) without one. */
    private static void fault(int number, String marked) {
        int place = marked.indexOf('@');
        String text = place < 0 ? marked : marked.substring(0, place) + marked.substring(place + 1);
        WolfDeeds x = new WolfDeeds();
        due("3: fault of " + marked, number, () -> Told.read(x, text));
        due("4: its place in " + marked, number == 0 ? NO : place, x::fault);
        due("5: texts refused by " + marked, number == 0 ? 0 : 1, () -> x.count(10));
    }

    private static void fine(String text) {
        fault(0, text);
    }

    // ---- 1: a new object

    private static void newObject() {
        WolfDeeds x = new WolfDeeds();
        due("1: nobody", 0, () -> x.count(3));
        due("1: no PLACES", 0, () -> x.count(1));
        Told.noSuch("1: nobody", x, () -> x.person(0, 0));
        Told.noSuch("1: no PLACE", x, () -> x.place(0, 0));
        Told.noSuch("1: no PACK", x, () -> x.pack(0, 0));
        due("1: suspects", 0, x::suspects);
        due("1: closed", 0, x::closed);
        due("1: look", NO, () -> x.look(0));
        due("1: debtor", NO, x::debtor);
        due("1: fairest", 0, () -> x.fairest(99));
        due("1: needed", 0, () -> x.needed(99));
        due("1: paid", 0, () -> x.paid(99));
        due("1: first cold", NO, () -> x.firstCold(0));
        due("1: first thin", NO, () -> x.firstThin(0));
        due("1: lambs behind a winter by a seed", 0, () -> x.winters(1, 60, 2));
        due("1: nothing to undo", NO, x::undo);
        due("1: no image", 0, () -> Told.flag(x.restore()));
        due("1: no fault", NO, x::fault);
        due("1: an empty tape", 0, () -> x.winter(0));
    }

    // ---- 2: feed

    private static void feedTwentyBytes() {
        WolfDeeds x = new WolfDeeds();
        due("2: twenty bytes", 20, () -> x.feed(0, 0, 0, 0, 0));
        due("2: behind the others", 40, () -> x.feed(0, 0, 0, 0, 0));
        due("2: how many it has", 40, () -> x.count(9));
        WolfDeeds y = new WolfDeeds();
        Told.feed(y, Told.bytes("pack 1 1;        pac"));
        Told.feed(y, Told.bytes("k 2 2;"));
        due("2: a word over the seam", 0, () -> y.winter(26));
        due("2: both packs", 2, () -> y.count(0));
    }

    private static void feedHighestFirst() {
        WolfDeeds x = new WolfDeeds();
        x.feed(0x736e6f77, 0x20312032, 0x20332034, 0x20352036, 0x2037203b);
        due("2: snow 1 2 3 4 5 6 7 ;", 0, () -> x.winter(20));
        for (int day = 0; day < 7; day++) {
            int snow = day + 1;
            due("2: number " + snow, snow, () -> x.count(5));
            x.days(1);
        }
        int[] highest = {0x80000000, 0xffffffff, 0x7fffffff};
        for (int number : highest) {
            WolfDeeds y = new WolfDeeds();
            due("2: any int", 20, () -> y.feed(number, number, number, number, number));
            due("2: no TOKEN", 1, () -> y.winter(20));
            due("2: its first byte", 0, y::fault);
        }
    }

    private static void feedFull() {
        WolfDeeds x = new WolfDeeds();
        Told.feed(x, Told.bytes("pack 3 4;" + " ".repeat(671)));
        due("2: 680", 680, () -> x.count(9));
        due("2: 700 are not more than 700", 700, () -> x.feed(0x20202020, 0x20202020, 0x20202020, 0x20207061, 0x20202020));
        Told.unchanged("2: 720 would be", x, NO, () -> x.feed(1, 2, 3, 4, 5));
        Told.unchanged("2: and again", x, NO, () -> x.feed(0, 0, 0, 0, 0));
        due("2: no call of STATUS", 0, () -> x.count(10) + x.count(11) + x.count(12));
        due("2: the text is as it was", 1, () -> x.winter(700));
        due("2: its strange word", 694, x::fault);
        due("2: room again", 20, () -> x.feed(0, 0, 0, 0, 0));
    }

    // ---- 3: winter

    private static void winterOfSoManyBytes() {
        String text = " ".repeat(691) + "pack 1 1;";
        WolfDeeds x = new WolfDeeds();
        Told.feed(x, Told.bytes(text));
        due("3: all 700 bytes", 0, () -> x.winter(700));
        due("3: its pack", 1, () -> x.count(0));
        Told.feed(x, Told.bytes(text));
        due("3: all but one", 1, () -> x.winter(699));
        due("4: the text's length", 699, x::fault);
        Told.feed(x, Told.bytes("pack 1 1;pack"));
        due("3: the first 9 of 20", 0, () -> x.winter(9));
        due("3: the tape is empty then", 0, () -> x.count(9));
        Told.feed(x, Told.bytes("snow 9;"));
        due("3: what stood behind is gone", 0, () -> x.winter(7));
        due("3: the snow alone", 9, () -> x.count(5));
        cutIs("pack 1 12;", 8, 1, 8);
        cutIs("pack 1 100;", 9, 1, 9);
        cutIs("pack 1 100;", 10, 2, 7);
        cutIs("snow 1 2;pack", 11, 1, 9);
        cutIs("packs 1 1;", 4, 1, 4);
        cutIs("rent 12345;", 9, 1, 9);
        cutIs("rent 1 and 1;", 9, 1, 7);
        cutIs("pack 1        1;", 9, 1, 9);
        cutIs("pack 1 1;   \n  x", 12, 0, -1);
        Told.feed(x, Told.bytes("@@@"));
        due("3: none of twenty", 0, () -> x.winter(0));
        due("3: the tape is empty then, too", 0, () -> x.count(9));
        due("3: snow without", 1, () -> x.count(5));
    }

    /** The first bytes end within a TOKEN: what stands behind them on the tape isn't read. */
    private static void cutIs(String text, int n, int number, int place) {
        WolfDeeds x = new WolfDeeds();
        Told.feed(x, Told.bytes(text));
        due("3: " + n + " bytes of " + text, number, () -> x.winter(n));
        due("4: its place in " + n + " bytes of " + text, place, x::fault);
    }

    private static WolfDeeds busy() {
        WolfDeeds x = Told.winter("pack 9 9;house 0;wood 0;path 0 1 1;child 0 50 9;snow 3;right 1;rent 2;");
        x.lamp(0, true);
        x.favour(0, 1, true);
        x.days(2);
        x.track(1, 5);
        x.image();
        x.days(0);
        x.track(0, -1);
        return x;
    }

    private static void winterAllAnew() {
        WolfDeeds x = busy();
        due("3: a winter of the same land", 0, () -> Told.read(x, "pack 9 9;house 0;wood 0;child 0 50 9;"));
        int[] person = {3, 0, 50, 9, 0, 0, 0, 0, 1};
        for (int what = 0; what < 9; what++) {
            int asked = what;
            due("3: anew, person(0, " + what + ")", person[what], () -> x.person(0, asked));
        }
        due("3: store anew", 9, () -> x.pack(0, 1));
        due("3: thin anew", 0, () -> x.pack(0, 2));
        due("3: the day anew", 0, () -> x.count(4));
        due("3: snow anew", 1, () -> x.count(5));
        due("3: no paths", NO, () -> x.far(0, 1));
        due("3: no RIGHT", 0, () -> Told.flag(x.right(0, 1, 5)));
        due("3: ACTS are gone", 0, () -> x.count(7));
        due("3: nothing to undo", NO, x::undo);
        due("3: TRACKS are gone", 0, () -> x.count(8));
        due("3: the image is gone", 0, () -> Told.flag(x.restore()));
        due("3: STATUS 1 stays", 1, () -> x.count(11));
        due("3: STATUS 2 stays", 1, () -> x.count(12));
    }

    private static void winterWithFault() {
        WolfDeeds x = busy();
        String before = Told.portrait(x);
        due("3: a fault", 2, () -> Told.read(x, "pack 1 1;house 0;house 0;child 1 7 7;pack 21 0;"));
        due("3: the tape is empty", 0, () -> x.count(9));
        Told.same("3: all else stays", before, Told.portrait(x));
        due("3: DUE by the RENT that stays", 2, () -> x.person(0, 8));
        due("3: the RIGHT that stays", 1, () -> Told.flag(x.right(0, 1, 0)));
        due("3: STATUS 0", 1, () -> x.count(10));
        due("3: the image stays", 1, () -> Told.flag(x.restore()));
        Told.same("3: as it was", before, Told.portrait(x));
        due("3: ACTS stay", 2, x::undo);
    }

    private static void winterNotSoMany() {
        WolfDeeds x = busy();
        Told.illegal("3: an empty tape has not one", x, () -> x.winter(1));
        Told.feed(x, Told.bytes("pack"));
        Told.illegal("3: 21 of 20", x, () -> x.winter(21));
        Told.illegal("3: -1", x, () -> x.winter(-1));
        Told.illegal("3: the least int", x, () -> x.winter(Integer.MIN_VALUE));
        Told.illegal("3: the greatest int", x, () -> x.winter(Integer.MAX_VALUE));
        due("3: nothing changed", 1, () -> x.winter(20));
    }

    // ---- 4: fault

    private static void faultPlaces() {
        WolfDeeds x = new WolfDeeds();
        due("4: none of a new object", NO, x::fault);
        Told.read(x, "pack 0 0;pock");
        due("4: the place", 9, x::fault);
        Told.illegal("4: no winter", x, () -> x.winter(1));
        due("4: the latest winter's still", 9, x::fault);
        Told.read(x, "x");
        due("4: place 0", 0, x::fault);
        Told.read(x, "");
        due("4: none without", NO, x::fault);
        Told.read(x, " ".repeat(699) + ".");
        due("4: place 699", 699, x::fault);
        Told.read(x, "pack 0" + " ".repeat(694));
        due("4: place 700", 700, x::fault);
    }

    // ---- Terms 1: TOKENS and LINES

    private static void tokens() {
        fine("");
        fine("\n \n");
        fine("pack0 0;house0;snow0 1;right 1and 2or 3;");
        fine("\npack\n20 \n 99\n;\n");
        fine("pack 0020 0099;house 0000;");
        fault(1, "@packhouse 0;");
        fault(1, "@pac 0 0;");
        fault(1, "@packk 0 0;");
        fault(1, "@p ack 0 0;");
        fault(1, "@pAck 0 0;");
        fault(1, "@PACK 0 0;");
        fault(1, "@0pack 0 0;");
        fault(1, "pack 0 0@\u00ff;");
        int[] noBlanks = {0, 9, 11, 13, 31, 33, 127, 128, 160, 255};
        for (int sign : noBlanks) {
            fault(1, "pack@" + (char) sign + "0 0;");
            fault(1, "pack 0 0;@" + (char) sign);
        }
        for (char sign : "!\"#$%&',.:>?AZ[\\]^_`{|}~".toCharArray()) {
            fault(1, "rent 1@" + sign + "1;");
        }
    }

    private static void endsTooSoon() {
        String[] lines = {"pack 0 0;", "house 0;", "path 0 2 1;", "squire 0 0 0;", "snow 1 2;", "right (1+2)*3<4;", "rent not 1;"};
        for (String line : lines) {
            for (int n = 1; n < line.length(); n++) {
                char last = line.charAt(n - 1);
                boolean isCutWord = last >= 'a' && last <= 'z' && line.charAt(n) >= 'a' && line.charAt(n) <= 'z';
                if (!isCutWord) {
                    fault(1, LAND + line.substring(0, n) + "@");
                    fault(1, LAND + line.substring(0, n) + " \n @");
                }
            }
        }
        fine(LAND + String.join("", lines));
    }

    private static void cantStandThere() {
        fault(1, "@;");
        fault(1, "pack 0 0;@;");
        fault(1, "@(");
        fault(1, "@7;");
        fault(1, "@12345;");
        fault(1, "@kind 1;");
        fault(1, "@or 1;");
        String[] begun = {"pack ", "pack 0 ", "house ", "path ", "path 0 ", "path 0 1 ", "child ", "child 0 ", "child 0 0 ", "snow "};
        String[] strange = {";", "pack", "x", "(", "-1", "+", "house 0;"};
        for (String line : begun) {
            for (String token : strange) {
                fault(1, LAND + line + "@" + token);
            }
        }
        String[] whole = {"pack 0 0", "house 0", "path 0 1 1", "child 0 0 0", "snow 1", "right 1", "rent 1"};
        for (String line : whole) {
            fault(1, LAND + line + " @pack 0 0;");
            fault(1, LAND + line + " @)");
            fault(1, LAND + line + (line.startsWith("snow") ? " 2@(" : " @1;"));
            fault(line.startsWith("snow") ? 2 : 1, LAND + line + " @12345;");
        }
    }

    private static void tooGreatNumbers() {
        String[][] rows = {{"pack ", "0", "20", "21", " 0;"}, {"pack 0 ", "0", "99", "100", ";"}, {"path 0 1 ", "1", "9", "10", ";"},
            {"child 0 ", "0", "99", "100", " 0;"}, {"child 0 0 ", "0", "99", "100", ";"}, {"snow ", "0", "9", "10", ";"}, {"snow 1 ", "0", "9", "10", ";"}};
        for (String[] row : rows) {
            fine(LAND + row[0] + row[1] + row[4]);
            fine(LAND + row[0] + row[2] + row[4]);
            fine(LAND + row[0] + "0".repeat(4 - row[2].length()) + row[2] + row[4]);
            fault(2, LAND + row[0] + "@" + row[3] + row[4]);
            fault(2, LAND + row[0] + "@9999" + row[4]);
            fault(2, LAND + row[0] + "@10000" + row[4]);
            fault(2, LAND + row[0] + "@" + "0".repeat(5 - row[2].length()) + row[2] + row[4]);
            fault(2, LAND + row[0] + "@4294967297" + row[4]);
        }
        fault(2, LAND + "path 0 1 @0;");
        fault(2, LAND + "path 0 1 @0000;");
        fault(2, "pack 0 0;house @00000;");
        fault(2, LAND + "path @00000 1 1;");
        fault(2, LAND + "path 0 @00001 1;");
        fault(2, LAND + "child @00000 0 0;");
    }

    private static void tooManyLines() {
        fine("pack 0 0;".repeat(4));
        fault(2, "pack 0 0;".repeat(4) + "@pack");
        fault(1, "pack 0 0;".repeat(3) + "pack@");
        String nine = "pack 0 0;house 0;" + "field 0;edge 0;wood 0;house 0;".repeat(2);
        fine(nine);
        for (String kind : new String[] {"house", "field", "edge", "wood"}) {
            fault(2, nine + "@" + kind + " 9;");
        }
        String six = LAND + "squire 0 0 0;doctor 0 0 0;widow 0 0 0;child 0 0 0;squire 2 0 0;child 2 0 0;";
        fine(six);
        for (String kind : new String[] {"squire", "doctor", "widow", "child"}) {
            fault(2, six + "@" + kind + " 1 100 0;");
        }
        StringBuilder paths = new StringBuilder("pack 0 0;" + "wood 0;".repeat(8));
        for (int i = 0; i < 7; i++) {
            paths.append("path ").append(i).append(' ').append(i + 1).append(" 9;");
            paths.append("path ").append((i + 2) % 8).append(' ').append(i).append(" 1;");
        }
        fine(paths.toString());
        fault(2, paths + "@path 0 0 0;");
        fine("snow 0 1 2 3 4 5 6 7 8 9;");
        fault(2, "snow 0 1 2 3 4 5 6 7 8 9 @0;");
        fault(2, "snow 0 1 2 3 4 5 6 7 8 9 @10000;");
        fault(1, "snow 0 1 2 3 4 5 6 7 8 9@(");
        fault(1, "snow @;");
    }

    private static void notTold() {
        fault(3, "house @0;");
        fault(3, "house @0;pack 0 0;");
        fault(3, "pack 0 0;wood @1;");
        fault(3, "pack 0 0;".repeat(4) + "edge 3;field @4;");
        fault(3, "pack 0 0;house @9999;");
        fault(3, "pack 0 0;path @0 0 0;");
        fault(3, "pack 0 0;house 0;path 0 @1 1;house 0;");
        fault(3, LAND + "path @3 0 1;");
        fault(3, LAND + "path 0 @9999 1;");
        fault(3, "pack 0 0;child @0 0 0;house 0;");
        fault(3, LAND + "child @3 0 0;");
        fault(3, LAND + "child @9999 0 0;");
        fault(3, "pack 0 0;" + "house 0;".repeat(9) + "child 8 0 0;path 8 0 1;child @9 0 0;");
    }

    private static void badPaths() {
        fault(4, LAND + "path 0 @0 1;");
        fault(4, LAND + "path 2 @2 0;");
        fault(4, LAND + "path 0 1 1;path 0 @1 2;");
        fault(4, LAND + "path 0 1 1;path 1 @0 1;");
        fault(4, LAND + "path 0 1 1;path 1 2 1;path 2 0 1;path 2 @1 10;");
        fine(LAND + "path 0 1 1;path 1 2 1;path 2 0 1;");
    }

    private static void seconds() {
        String[] lines = {"snow 1;", "right 1;", "rent 1;"};
        for (String line : lines) {
            String word = line.substring(0, line.indexOf(' '));
            fault(5, line + "@" + line);
            fault(5, line + "@" + word);
            fault(5, line + "pack 0 0;@" + word + " pack");
        }
        fine("rent 1;right 1;snow 1;");
        fine("snow 1;rent 1;right 1;");
    }

    private static void noHouses() {
        for (String kind : new String[] {"field", "edge", "wood"}) {
            fault(6, "pack 0 0;house 0;" + kind + " 0;widow @1 100 0;");
        }
        fault(6, LAND + "squire @1;");
        fine(LAND + "squire 0 0 0;squire 0 0 0;squire 2 0 0;");
        fault(3, LAND + "squire @3 0 0;");
        fault(2, LAND + "squire @00001 0 0;");
    }

    private static void firstAndLeast() {
        fault(2, "pack @21 100;house 7;");
        fault(2, "pack @21");
        fault(1, "pack 0 0 @x pack 21 0;");
        fault(3, "pack 0 0;house @1 1;snow;");
        fault(3, LAND + "path @3 3 1;");
        fault(3, LAND + "path 0 1 1;path @9 1 1;");
        fault(2, LAND + "path 0 1 1;path 0 @00001 1;");
        fault(5, "snow 1;@snow 10;");
    }

    // ---- Terms 1: EXPRS

    private static void exprCantStand() {
        String[] deeds = {"right ", "rent "};
        String[] ends = {"@;", "(@)", "(1@;", "1@);", "1+@;", "1-@-1;", "1*@/2;", "@+1;", "@-1;", "@<1;", "1<@<2;", "1<2@<3;", "1=2@=3;", "1<2@=3;",
            "1=2@<3;", "1 @2;", "1 @day;", "1 @x;", "1 @not 1;", "1 @(2);", "(1)@(2);", "not @;", "1 and @;", "1 or @;", "(1)@);", "1 @10000;",
            "not (1<2@<3);", "1<(@);"};
        for (String deed : deeds) {
            for (String end : ends) {
                fault(1, deed + end);
            }
            fine(deed + "(1<2)<3;");
            fine(deed + "1<2 and 2<3 or not 3=3;");
            fine(deed + "1+2-3*4/5<6+7-8*9/10;");
            fault(1, deed + "1;@;");
        }
    }

    private static void exprTooMuch() {
        for (String deed : new String[] {"right ", "rent "}) {
            fine(deed + "9999+0000;");
            fault(2, deed + "@10000;");
            fault(2, deed + "1+@00000;");
            fine(deed + "(((((1)))));");
            fine(deed + "(((((1)))))+(((((not not day)))));");
            fine(deed + "not(not(not(not(not(1)))));");
            fine(deed + "((((1)+(2))*(3))-(4));");
            String[] much = {"1", "day", "lambs", "x", "not 1", "or", "and", "(1)", "10000"};
            for (String inner : much) {
                fault(2, deed + "((((((@" + inner + "))))));");
                fault(2, deed + "(((((1+(@" + inner + "))))));");
            }
            String[] cant = {")", ";", "+1", "-1", "*", "/", "<", "=", "", "."};
            for (String inner : cant) {
                fault(1, deed + "((((((@" + inner);
            }
            fine(deed + "not not not not not not 1;");
            fine(deed + "not not not not not not (not not not not not not 1);");
            fine(deed + "not not not not 1 and not not not not 1 or not not not not 1;");
            fault(2, deed + "not not not not not not @not 1;");
            fault(2, deed + "1 and not not not not not not @not");
            fault(2, deed + "(((((not not not not not not @not 1)))));");
            fault(3, deed + "not not not not not not @nit;");
        }
    }

    private static void exprNoValue() {
        for (String value : new String[] {"kind", "snow", "day", "owes"}) {
            fine("right " + value + ";rent " + value + ";");
        }
        for (String value : new String[] {"place", "hour", "lamp"}) {
            fine("right " + value + ";");
            fault(3, "rent 1+@" + value + ";");
        }
        for (String value : new String[] {"lambs", "hunger", "store"}) {
            fine("rent " + value + ";");
            fault(3, "right 1*(@" + value + ");");
        }
        String[] noParts = {"and", "or", "house", "pack", "path", "child", "right", "rent", "kin", "kinds", "x", "a", "z"};
        for (String word : noParts) {
            fault(3, "right @" + word + ";");
            fault(3, "rent not @" + word + ";");
            fault(3, "rent 1 or @" + word + ";");
            fault(3, "right 1 and @" + word + ";");
            fault(3, "right 1<@" + word + ";");
            fault(3, "right 1-@" + word + ";");
            fault(3, "right 1/@" + word + ";");
            fault(3, "right (@" + word + ");");
        }
        for (String sign : new String[] {"+", "-", "*", "/", "<", "="}) {
            fault(3, "right 1" + sign + "@not 1;");
        }
    }

    // ---- Terms 1: SNOW

    private static void snowByDays() {
        WolfDeeds x = Told.winter("snow 0 1 2 3 4 5 6 7 8 9;");
        for (int day = 0; day < 21; day++) {
            int snow = day % 10;
            due("5: ten numbers, DAY " + day, snow, () -> x.count(5));
            x.days(1);
        }
        WolfDeeds y = Told.winter("snow 7;");
        due("5: one number", 7, () -> y.count(5));
        y.days(30);
        due("5: one number, DAY 30", 7, () -> y.count(5));
        WolfDeeds z = Told.winter("snow 0 5 6;");
        for (int i = 0; i < 33; i++) {
            z.days(30);
        }
        z.days(9);
        due("5: DAY 999 of three", 0, () -> z.count(5));
        WolfDeeds w = Told.winter("pack 0 0;");
        due("5: without, 1", 1, () -> w.count(5));
        w.days(3);
        due("5: without, 1 on DAY 3", 1, () -> w.count(5));
    }
}
