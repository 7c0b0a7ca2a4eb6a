import java.util.ArrayList;
import java.util.List;
import java.util.Random;

/** Random winters and random calls, answered by the class and by the Model; the seeds are fixed. */
public final class FuzzTest {
    private static final int RUNS = 1500;
    private static final int FAULTY_TEXTS = 60000;
    private static final int[] EDGES = {Integer.MIN_VALUE, Integer.MIN_VALUE + 1, -1000, -2, -1, 0, 1, 2, 6, 9, 10, 14, 23, 24, 30, 31,
        40, 47, 48, 49, 60, 61, 71, 72, 95, 96, 99, 100, 700, 701, 999, 1000, 9999, Integer.MAX_VALUE - 1, Integer.MAX_VALUE};
    private static final String[] RIGHT_VALUES = {"kind", "place", "hour", "hour", "hour", "snow", "lamp", "owes", "day"};
    private static final String[] RENT_VALUES = {"lambs", "kind", "hunger", "store", "snow", "day", "owes"};
    private static final String[] ANY = {"pack", "house", "field", "edge", "wood", "path", "squire", "doctor", "widow", "child", "snow",
        "right", "rent", "or", "and", "not", "kind", "place", "hour", "lamp", "owes", "day", "lambs", "hunger", "store", "a", "packs",
        "0", "1", "2", "3", "5", "9", "10", "20", "21", "99", "100", "0000", "00001", "9999", "10000", "123456789012", ";", "(", ")",
        "+", "-", "*", "/", "<", "=", ".", "A", "\t", "\u00e9", "snow 1", "( (", "not not not", "{", "`"};

    private final Random random;
    private final WolfDeeds deeds = new WolfDeeds();
    private final Model model = new Model();
    private final StringBuilder story = new StringBuilder();
    private int packs;
    private int places;
    private int people;

    private FuzzTest(long seed) {
        random = new Random(seed);
        story.append("seed ").append(seed);
    }

    public static void main(String[] args) {
        for (int seed = 0; seed < RUNS && Told.isClean(); seed++) {
            new FuzzTest(seed).run();
        }
        for (int seed = 0; seed < FAULTY_TEXTS / 100 && Told.isClean(); seed++) {
            new FuzzTest(-1 - seed).runFaulty();
        }
        Told.end();
    }

    private int below(int bound) {
        return random.nextInt(bound);
    }

    private int upTo(int most) {
        return below(8) == 0 ? most : below(6) == 0 ? 0 : below(most + 1);
    }

    private void same(String call, Told.Call mine, Told.Call theirs) {
        long want = Told.outcome(theirs);
        if (Told.isClean()) {
            story.append('\n').append(call).append(" -> ").append(Told.shown(want));
            Told.due(call, want, mine);
            if (!Told.isClean()) {
                System.out.println(story);
            }
        }
    }

    // ---- texts

    private List<String> expr(String[] values, int within, int level) {
        List<String> tokens = new ArrayList<>();
        if (level == 5) {
            int choice = below(within < 5 ? 6 : 4);
            if (choice < 2) {
                tokens.add(Integer.toString(below(3) == 0 ? below(10000) : below(25)));
            } else if (choice < 4) {
                tokens.add(values[below(values.length)]);
            } else {
                tokens.add("(");
                tokens.addAll(expr(values, within + 1, 0));
                tokens.add(")");
            }
            return tokens;
        }
        if (level == 2) {
            for (int nots = below(9) == 0 ? below(7) : 0; nots > 0; nots--) {
                tokens.add("not");
            }
        }
        String[][] signs = {{"or"}, {"and"}, {"<", "="}, {"+", "-"}, {"*", "/"}};
        tokens.addAll(expr(values, within, level + 1));
        for (int more = below(4) == 0 ? 1 + below(level == 2 ? 1 : 2) : 0; more > 0; more--) {
            tokens.add(signs[level][below(signs[level].length)]);
            tokens.addAll(expr(values, within, level + 1));
        }
        return tokens;
    }

    private void line(List<String> tokens, Object... words) {
        for (Object word : words) {
            tokens.add(word.toString());
        }
        tokens.add(";");
    }

    private List<String> winter() {
        List<String> tokens = new ArrayList<>();
        packs = below(12) == 0 ? 0 : 1 + below(4);
        places = packs == 0 ? 0 : below(15) == 0 ? 0 : 1 + upTo(8);
        List<Integer> houses = new ArrayList<>();
        boolean hungry = below(3) == 0;
        for (int i = 0; i < packs; i++) {
            line(tokens, "pack", hungry ? upTo(20) : below(4), upTo(99));
        }
        for (int i = 0; i < places; i++) {
            int kind = i == 0 && below(9) > 0 || below(2) == 0 ? 0 : below(4);
            line(tokens, new String[] {"house", "field", "edge", "wood"}[kind], below(packs));
            if (kind == 0) {
                houses.add(i);
            }
        }
        paths(tokens);
        people = houses.isEmpty() ? 0 : below(15) == 0 ? 0 : 1 + upTo(5);
        for (int i = 0; i < people; i++) {
            String kind = new String[] {"squire", "doctor", "widow", "child"}[below(4)];
            line(tokens, kind, houses.get(below(houses.size())), upTo(99), upTo(below(2) == 0 ? 99 : 9));
        }
        deeds(tokens);
        return tokens;
    }

    private void paths(List<String> tokens) {
        List<int[]> couples = new ArrayList<>();
        for (int one = 0; one < places; one++) {
            for (int other = 0; other < one; other++) {
                couples.add(below(2) == 0 ? new int[] {one, other} : new int[] {other, one});
            }
        }
        java.util.Collections.shuffle(couples, random);
        int most = below(3) == 0 ? 2 : 9;
        for (int i = upTo(Math.min(14, couples.size())); i > 0; i--) {
            line(tokens, "path", couples.get(i - 1)[0], couples.get(i - 1)[1], 1 + below(most));
        }
    }

    private void deeds(List<String> tokens) {
        if (below(3) > 0) {
            tokens.add("snow");
            for (int i = 1 + below(10); i > 0; i--) {
                tokens.add(Integer.toString(below(2) == 0 ? 0 : below(10)));
            }
            tokens.add(";");
        }
        if (below(3) > 0) {
            tokens.add("right");
            tokens.addAll(below(2) == 0 ? List.of(Integer.toString(below(22)), "<", "hour", "-", "kind") : expr(RIGHT_VALUES, 0, 0));
            tokens.add(";");
        }
        if (below(3) > 0) {
            tokens.add("rent");
            tokens.addAll(below(3) == 0 ? List.of("lambs", "/", Integer.toString(below(9))) : expr(RENT_VALUES, 0, 0));
            tokens.add(";");
        }
    }

    private static boolean sticks(String one, String other) {
        return Character.isLetterOrDigit(one.charAt(one.length() - 1)) && Character.isLetterOrDigit(other.charAt(0))
            && Character.isDigit(one.charAt(one.length() - 1)) == Character.isDigit(other.charAt(0));
    }

    private String joined(List<String> tokens) {
        boolean airy = below(3) == 0;
        StringBuilder text = new StringBuilder();
        for (int i = 0; i < tokens.size(); i++) {
            if (i > 0 && (sticks(tokens.get(i - 1), tokens.get(i)) || airy && below(3) == 0)) {
                text.append(below(6) == 0 ? "\n" : " ");
            }
            text.append(tokens.get(i));
        }
        return text.toString();
    }

    private void read(String text) {
        byte[] whole = Told.padded(Told.bytes(text));
        for (int i = 0; i < whole.length; i += 20) {
            int[] n = new int[5];
            for (int k = 0; k < 5; k++) {
                n[k] = Told.number(whole, i + 4 * k);
            }
            same("feed " + i, () -> deeds.feed(n[0], n[1], n[2], n[3], n[4]), () -> model.feed(n));
        }
        int length = below(40) == 0 ? text.length() + 1 + below(20) : text.length();
        story.append('\n').append(text);
        same("winter(" + length + ")", () -> deeds.winter(length), () -> model.winter(length));
        same("fault()", () -> deeds.fault(), () -> model.fault());
        for (int what = 0; what <= 12; what++) {
            int asked = what;
            same("count(" + what + ")", () -> deeds.count(asked), () -> model.count(asked));
        }
    }

    /** Lines told so often that they stand at the document's limits, or one above. */
    private String crowded() {
        StringBuilder text = new StringBuilder("pack 1 1;house 0;house 0;");
        switch (below(7)) {
            case 0 -> text.append("pack 0 0;".repeat(2 + below(3)));
            case 1 -> text.append("wood 0;".repeat(6 + below(3)));
            case 2 -> {
                text.append("edge 0;".repeat(5));
                for (int i = 0, paths = 13 + below(3); i < 7; i++) {
                    for (int k = 0; k < i && paths > 0; k++, paths--) {
                        text.append("path ").append(i).append(' ').append(k).append(" 1;");
                    }
                }
            }
            case 3 -> text.append("child 1 9 9;".repeat(5 + below(3)));
            case 4 -> text.append("snow").append(" 7".repeat(9 + below(4))).append(';');
            case 5 -> text.append(below(2) == 0 ? "right " : "rent ").append("not ".repeat(5 + below(4))).append("(not 1);");
            default -> {
                int within = 4 + below(4);
                String[] inner = {"1", "day", "lambs", "not 1", "+", ")", "", "or", "99999", "(1)"};
                text.append(below(2) == 0 ? "right " : "rent ").append("(".repeat(within)).append(inner[below(inner.length)])
                    .append(")".repeat(within)).append(';');
            }
        }
        return text.toString();
    }

    private void runCrowded() {
        String text = crowded();
        if (below(4) == 0) {
            int at = below(text.length());
            text = text.substring(0, at) + ANY[below(ANY.length)] + text.substring(at);
        }
        story.setLength(0);
        read(text);
    }

    private void runFaulty() {
        List<String> tokens = winter();
        for (int i = 0; i < 100; i++) {
            List<String> spoilt = new ArrayList<>(tokens);
            for (int k = below(3); k >= 0 && !spoilt.isEmpty(); k--) {
                int at = below(spoilt.size());
                switch (below(9)) {
                    case 0 -> spoilt.remove(at);
                    case 1 -> spoilt.add(at, ANY[below(ANY.length)]);
                    case 2 -> spoilt.set(at, ANY[below(ANY.length)]);
                    case 3 -> spoilt.add(at, spoilt.get(below(spoilt.size())));
                    default -> spoil(spoilt, at);
                }
            }
            String text = joined(spoilt);
            text = text.substring(0, Math.min(text.length(), below(5) == 0 ? below(701) : 700));
            story.setLength(0);
            read(text);
            if (i % 4 == 0) {
                runCrowded();
            }
        }
    }

    /** Puts another TOKEN of the like kind in the place of one. */
    private void spoil(List<String> tokens, int at) {
        for (int i = 0; i < tokens.size(); i++) {
            String token = tokens.get((at + i) % tokens.size());
            if (Character.isDigit(token.charAt(0))) {
                tokens.set((at + i) % tokens.size(), Integer.toString(below(4) == 0 ? below(12) : below(120)));
                return;
            }
        }
    }

    // ---- calls

    private int oneOf(int many) {
        return below(30) == 0 || many == 0 ? EDGES[below(EDGES.length)] : below(many);
    }

    private int number(int most) {
        return below(25) == 0 ? EDGES[below(EDGES.length)] : below(most + 1);
    }

    private void run() {
        String text = joined(winter());
        if (text.length() > 700) {
            return;
        }
        read(text);
        for (int i = 0; i < 250 && Told.isClean(); i++) {
            call(below(46));
        }
    }

    private void call(int which) {
        if (which < 12) {
            askWhatIs(which);
        } else if (which < 24) {
            act(which % 12);
        } else if (which < 36) {
            askAhead(which % 12);
        } else {
            askTheRest(which - 36);
        }
    }

    private void askWhatIs(int which) {
        int who = oneOf(people);
        int where = oneOf(places);
        int pack = oneOf(packs);
        int what = number(9);
        int hour = number(23);
        int other = oneOf(places);
        switch (which) {
            case 0 -> {
                int counted = number(13);
                same("count(" + counted + ")", () -> deeds.count(counted), () -> model.count(counted));
            }
            case 1 -> same("pack(" + pack + "," + what % 5 + ")", () -> deeds.pack(pack, what % 5), () -> model.pack(pack, what % 5));
            case 2 -> same("place(" + where + "," + what / 2 + ")", () -> deeds.place(where, what / 2), () -> model.place(where, what / 2));
            case 3 -> same("far(" + where + "," + other + ")", () -> deeds.far(where, other), () -> model.far(where, other));
            case 4 -> same("right(" + who + "," + where + "," + hour + ")", () -> Told.flag(deeds.right(who, where, hour)),
                () -> Told.flag(model.right(who, where, hour)));
            case 5 -> same("open(" + who + "," + where + ")", () -> deeds.open(who, where), () -> model.open(who, where));
            case 6 -> same("closed()", () -> deeds.closed(), () -> model.closed());
            case 7 -> same("debtor()", () -> deeds.debtor(), () -> model.debtor());
            case 8 -> same("neighbour(" + who + ")", () -> deeds.neighbour(who), () -> model.neighbour(who));
            case 9 -> same("lodged(" + where + ")", () -> deeds.lodged(where), () -> model.lodged(where));
            default -> same("person(" + who + "," + what + ")", () -> deeds.person(who, what), () -> model.person(who, what));
        }
    }

    private void act(int which) {
        int who = oneOf(people);
        int where = oneOf(places);
        int pack = oneOf(packs);
        int many = number(30);
        int lambs = number(12);
        boolean flag = below(2) == 0;
        switch (which) {
            case 0, 1 -> same("days(" + many + ")", () -> deeds.days(many), () -> model.days(many));
            case 2, 3 -> same("pay(" + who + "," + pack + "," + lambs + ")", () -> deeds.pay(who, pack, lambs), () -> model.pay(who, pack, lambs));
            case 4 -> same("gather(" + who + "," + many + ")", () -> deeds.gather(who, many), () -> model.gather(who, many));
            case 5 -> same("lamp(" + who + "," + flag + ")", () -> Told.flag(deeds.lamp(who, flag)), () -> Told.flag(model.lamp(who, flag)));
            case 6, 7 -> same("favour(" + who + "," + where + "," + flag + ")", () -> Told.flag(deeds.favour(who, where, flag)),
                () -> Told.flag(model.favour(who, where, flag)));
            case 8 -> same("undo()", () -> deeds.undo(), () -> model.undo());
            case 9 -> {
                for (int i = below(5) == 0 ? 50 : 1; i > 0; i--) {
                    same("undo()", () -> deeds.undo(), () -> model.undo());
                }
            }
            case 10 -> {
                deeds.image();
                model.image();
                story.append("\nimage()");
            }
            default -> same("restore()", () -> Told.flag(deeds.restore()), () -> Told.flag(model.restore()));
        }
    }

    private void askAhead(int which) {
        int who = oneOf(people);
        int pack = oneOf(packs);
        int days = below(3) == 0 ? number(99) : number(12);
        int what = number(3);
        int seed = random.nextInt();
        switch (which) {
            case 0 -> same("then(" + who + "," + days + "," + what + ")", () -> deeds.then(who, days, what), () -> model.then(who, days, what));
            case 1 -> same("packThen(" + pack + "," + days + "," + what + ")", () -> deeds.packThen(pack, days, what), () -> model.packThen(pack, days, what));
            case 2 -> same("lasts()", () -> deeds.lasts(), () -> model.lasts());
            case 3 -> same("fairest(" + days + ")", () -> deeds.fairest(days), () -> model.fairest(days));
            case 4 -> same("needed(" + days + ")", () -> deeds.needed(days), () -> model.needed(days));
            case 5 -> same("wood(" + who + "," + days + ")", () -> deeds.wood(who, days), () -> model.wood(who, days));
            case 6 -> same("firstCold(" + what + ")", () -> deeds.firstCold(what), () -> model.firstCold(what));
            case 7 -> same("firstThin(" + what + ")", () -> deeds.firstThin(what), () -> model.firstThin(what));
            case 8 -> same("paid(" + days + ")", () -> deeds.paid(days), () -> model.paid(days));
            case 9 -> same("bargain(" + who + "," + pack + "," + days + "," + what + ")", () -> deeds.bargain(who, pack, days, what),
                () -> model.bargain(who, pack, days, what));
            case 10 -> {
                int tenths = number(10);
                int many = number(9);
                int frosty = number(9);
                same("frosts(" + tenths + "," + frosty + "," + many + "," + what + ")", () -> deeds.frosts(tenths, frosty, many, what),
                    () -> model.frosts(tenths, frosty, many, what));
            }
            default -> same("winters(" + seed + "," + days + "," + what + ")", () -> deeds.winters(seed, days, what), () -> model.winters(seed, days, what));
        }
    }

    private void askTheRest(int which) {
        int who = oneOf(people);
        int other = oneOf(people);
        int where = oneOf(places);
        int hour = number(23);
        int late = number(71);
        int hours = number(48);
        int what = number(1);
        int set = below(20) == 0 ? EDGES[below(EDGES.length)] : below(1 << places);
        switch (which) {
            case 0 -> same("way(" + who + "," + where + "," + hour + ")", () -> deeds.way(who, where, hour), () -> model.way(who, where, hour));
            case 1 -> same("errands(" + who + "," + set + "," + hour + ")", () -> deeds.errands(who, set, hour), () -> model.errands(who, set, hour));
            case 2 -> same("reach(" + who + "," + hour + "," + hours + ")", () -> deeds.reach(who, hour, hours), () -> model.reach(who, hour, hours));
            case 3 -> same("meeting(" + who + "," + other + "," + hour + "," + what + ")", () -> deeds.meeting(who, other, hour, what),
                () -> model.meeting(who, other, hour, what));
            case 4 -> same("asked(" + who + "," + where + "," + hour + ")", () -> deeds.asked(who, where, hour), () -> model.asked(who, where, hour));
            case 5 -> same("edge(" + who + "," + hour + ")", () -> deeds.edge(who, hour), () -> model.edge(who, hour));
            case 6 -> same("track(" + where + "," + late + ")", () -> deeds.track(where, late), () -> model.track(where, late));
            case 7 -> {
                same("suspects()", () -> deeds.suspects(), () -> model.suspects());
                same("alibi(" + who + ")", () -> deeds.alibi(who), () -> model.alibi(who));
                same("look(" + late + ")", () -> deeds.look(late), () -> model.look(late));
            }
            case 8 -> {
                if (below(3) == 0) {
                    deeds.forget();
                    model.forget();
                    story.append("\nforget()");
                }
            }
            default -> same("breach(" + who + "," + where + "," + hour + ")", () -> deeds.breach(who, where, hour), () -> model.breach(who, where, hour));
        }
    }
}
