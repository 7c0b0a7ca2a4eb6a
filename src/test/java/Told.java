import java.nio.charset.StandardCharsets;
import java.util.NoSuchElementException;

/** What the tests share: putting texts on the tape, and calls compared by answer or by exception. */
final class Told {
    interface Call {
        long answer();
    }

    interface Deed {
        void happen();
    }

    /** Answers behind every real one, that stand for the exceptions. */
    static final long NO_SUCH = 1L << 40;
    static final long ILLEGAL = 1L << 41;
    static final long OTHER = 1L << 42;

    private static final int NONE = -1;

    private static int checks = 0;
    private static int wrong = 0;

    private Told() {
    }

    static long outcome(Call call) {
        try {
            return call.answer();
        } catch (NoSuchElementException e) {
            return e.getClass() == NoSuchElementException.class ? NO_SUCH : OTHER;
        } catch (IllegalArgumentException e) {
            return e.getClass() == IllegalArgumentException.class ? ILLEGAL : OTHER;
        } catch (RuntimeException e) {
            return OTHER;
        }
    }

    static long flag(boolean answer) {
        return answer ? 1 : 0;
    }

    static String shown(long outcome) {
        if (outcome == NO_SUCH) {
            return "throws.NoSuchElementException";
        }
        if (outcome == ILLEGAL) {
            return "throws.IllegalArgumentException";
        }
        return outcome == OTHER ? "throws.another exception" : Long.toString(outcome);
    }

    static void due(String what, long want, Call call) {
        long got = outcome(call);
        checks++;
        if (got != want) {
            wrong++;
            System.out.println(what + " answered " + shown(got) + ", due is " + shown(want));
        }
    }

    static void same(String what, String want, String got) {
        due(what + ": is\n" + got + "\nand was\n" + want, 1, () -> flag(want.equals(got)));
    }

    /** A call that must answer so and change nothing that can be seen, STATUS too. */
    static void unchanged(String what, WolfDeeds x, long want, Call call) {
        String before = portrait(x) + status(x, NONE);
        due(what, want, call);
        same(what + " changes nothing", before, portrait(x) + status(x, NONE));
    }

    static void noSuch(String what, WolfDeeds x, Call call) {
        unchanged(what, x, NO_SUCH, call);
    }

    static void illegal(String what, WolfDeeds x, Call call) {
        unchanged(what, x, ILLEGAL, call);
    }

    /** A refused call: it must answer so, count in one STATUS, and change nothing else. */
    static void refused(String what, WolfDeeds x, int number, long want, Call call) {
        String before = portrait(x) + status(x, number);
        due(what, want, call);
        same(what + " changes STATUS " + number + " alone", before, portrait(x) + status(x, NONE));
    }

    /** STATUS, with one more in one of its numbers. */
    private static String status(WolfDeeds x, int more) {
        StringBuilder text = new StringBuilder("status");
        for (int i = 0; i < 3; i++) {
            text.append(' ').append(x.count(10 + i) + (i == more ? 1 : 0));
        }
        return text.toString();
    }

    /** What can be seen of an object without changing it, but for STATUS, the tape and the FAULT. */
    static String portrait(WolfDeeds x) {
        StringBuilder text = new StringBuilder("counts");
        for (int what = 0; what < 9; what++) {
            text.append(' ').append(x.count(what));
        }
        for (int pack = 0; pack < x.count(0); pack++) {
            text.append("\npack");
            for (int what = 0; what < 5; what++) {
                text.append(' ').append(x.pack(pack, what));
            }
        }
        for (int place = 0; place < x.count(1); place++) {
            text.append("\nplace");
            for (int what = 0; what < 4; what++) {
                text.append(' ').append(x.place(place, what));
            }
        }
        for (int person = 0; person < x.count(3); person++) {
            text.append("\nperson");
            for (int what = 0; what < 9; what++) {
                text.append(' ').append(x.person(person, what));
            }
            text.append(" alibi ").append(x.alibi(person));
        }
        return text.append("\nclosed ").append(x.closed()).append('\n').toString();
    }

    /** Which numbers of a portrait are others in a later one: its row (of its name), its place there, from what to what. */
    static String changes(String before, String after) {
        String[] rows = before.split("\n");
        String[] later = after.split("\n");
        StringBuilder text = new StringBuilder();
        String name = "";
        int ofName = 0;
        for (int i = 0; i < rows.length; i++) {
            String[] old = rows[i].split(" ");
            String[] now = later[i].split(" ");
            ofName = old[0].equals(name) ? ofName + 1 : 0;
            name = old[0];
            for (int j = 1; j < old.length; j++) {
                if (!old[j].equals(now[j])) {
                    text.append(text.length() == 0 ? "" : ", ").append(name).append(ofName).append('.').append(j - 1).append(' ');
                    text.append(old[j]).append('>').append(now[j]);
                }
            }
        }
        return text.toString();
    }

    static byte[] padded(byte[] text) {
        return java.util.Arrays.copyOf(text, (text.length + 19) / 20 * 20);
    }

    static byte[] bytes(String text) {
        return text.getBytes(StandardCharsets.ISO_8859_1);
    }

    static int number(byte[] text, int at) {
        return (text[at] & 255) << 24 | (text[at + 1] & 255) << 16 | (text[at + 2] & 255) << 8 | text[at + 3] & 255;
    }

    static void feed(WolfDeeds deeds, byte[] text) {
        byte[] whole = padded(text);
        for (int i = 0; i < whole.length; i += 20) {
            deeds.feed(number(whole, i), number(whole, i + 4), number(whole, i + 8), number(whole, i + 12), number(whole, i + 16));
        }
    }

    /** Feeds a text to an object, lets it be read, and answers what winter() does. */
    static int read(WolfDeeds deeds, String text) {
        feed(deeds, bytes(text));
        return deeds.winter(text.length());
    }

    /** A new object with a WINTER that must be without FAULT. */
    static WolfDeeds winter(String text) {
        WolfDeeds deeds = new WolfDeeds();
        due("winter of " + text, 0, () -> read(deeds, text));
        return deeds;
    }

    static boolean isClean() {
        return wrong == 0;
    }

    static void end() {
        System.out.println(checks + " checks, " + wrong + " wrong");
        if (wrong != 0) {
            System.exit(1);
        }
    }
}
