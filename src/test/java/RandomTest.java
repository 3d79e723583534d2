/** Runs of drawn calls, each answered by the program and by Model; every answer and exception must be the same. */
public final class RandomTest {
    private static final int RUNS = 160;
    private static final int CALLS = 512;

    private long state;
    private final OldFences x = new OldFences();
    private final Model m = new Model();
    private final int run;
    private int calls = 0;
    private final StringBuilder trace = new StringBuilder();

    private RandomTest(int run) {
        this.run = run;
        this.state = run * 7919L + 13;
    }

    public static void main(String[] args) {
        for (int run = 0; run < RUNS; run++) {
            new RandomTest(run).go();
        }
        Kit.close("RandomTest");
    }

    /** Drawn by its own generator, so that every run of the test is the same. */
    private int draw(int below) {
        state = state * 6364136223846793005L + 1442695040888963407L;
        return (int) ((state >>> 33) % below);
    }

    private boolean coin() {
        return draw(2) == 0;
    }

    private boolean oneIn(int n) {
        return draw(n) == 0;
    }

    private void both(String what, Kit.Call program, Kit.Call model) {
        calls++;
        String got = answer(program);
        String want = answer(model);
        trace.append(what).append(" = ").append(want).append('\n');
        if (!got.equals(want)) {
            System.out.println("run " + run + ", call " + calls + ": " + what + " answered " + got
                    + ", due is " + want + "; the latest calls:\n"
                    + trace.substring(Math.max(0, trace.length() - 1500)));
            Kit.due("run " + run + " " + what, 0, 1);
        }
    }

    private static String answer(Kit.Call call) {
        long[] answer = new long[1];
        String thrown = Kit.thrownBy(() -> answer[0] = call.run());
        return thrown.equals("nothing") ? String.valueOf(answer[0]) : thrown;
    }

    private static long bit(boolean b) {
        return b ? 1 : 0;
    }

    private void go() {
        if (!oneIn(8)) {
            feedText(rightCounty());
            both("county", () -> x.county(), () -> m.county());
            feedText(rightCounty());
            both("county", () -> x.county(), () -> m.county());
        }
        while (calls < CALLS - 40) {
            step();
        }
        for (int what = -1; what < 13 && calls < CALLS; what++) {
            int w = what;
            both("count(" + w + ")", () -> x.count(w), () -> m.count(w));
        }
    }

    private void step() {
        switch (draw(8)) {
            case 0 -> texts();
            case 1, 2 -> acts();
            case 3 -> rare();
            case 4 -> ways();
            case 5 -> lands();
            case 6 -> families();
            default -> state();
        }
    }

    // ---- texts ----

    private void feedText(String text) {
        for (int from = 0; from < text.length(); from += 20) {
            int[] n = new int[5];
            for (int i = 0; i < 20 && from + i < text.length(); i++) {
                n[i / 4] |= text.charAt(from + i) << 24 - 8 * (i % 4);
            }
            both("feed", () -> x.feed(n[0], n[1], n[2], n[3], n[4]), () -> m.feed(n[0], n[1], n[2], n[3], n[4]));
        }
        trace.append("text: ").append(text).append('\n');
        both("end(" + text.length() + ")", () -> bit(x.end(text.length())), () -> bit(m.end(text.length())));
    }

    private String blank() {
        return " ".repeat(oneIn(6) ? draw(3) : 0);
    }

    private int number() {
        return oneIn(12) ? draw(1100) : coin() ? draw(12) : draw(100);
    }

    private int height() {
        return oneIn(4) ? draw(1000) : draw(60);
    }

    private String fence() {
        int b = draw(60);
        boolean turn = coin();
        StringBuilder t = new StringBuilder("fence ");
        t.append(turn ? Model.CELL_A[b] : Model.CELL_B[b]).append(' ').append(turn ? Model.CELL_B[b] : Model.CELL_A[b]);
        t.append(coin() ? " age " + draw(1000) : "").append(coin() ? blank() + " high " + height() : "");
        return t.append(oneIn(4) ? " gate" : "").append(oneIn(5) ? " string" : "").toString();
    }

    private String countyLine() {
        return switch (draw(8)) {
            case 0, 1, 2 -> fence();
            case 3 -> "row " + draw(5) + " high " + height();
            case 4, 5 -> "family at " + draw(36) + " climbs " + height() + (coin() ? " eyes " + height() : "");
            case 6 -> oneIn(5) ? "year " + draw(1000) : "quarrel" + blank() + " " + draw(101);
            default -> "fence" + draw(36) + " " + draw(36) + "high" + draw(50);
        };
    }

    private String rightCounty() {
        StringBuilder t = new StringBuilder();
        for (int i = 0; i < 7; i++) {
            t.append(i == 0 ? "" : ";").append(i % 2 == 0 ? fence()
                    : oneIn(4) ? "row " + draw(5) + " high " + height()
                    : oneIn(4) ? "quarrel " + draw(101)
                    : "family at " + draw(36) + " climbs " + height() + (coin() ? " eyes " + height() : ""));
        }
        return t.toString();
    }

    private String part() {
        String[] words = {"border", "age", "high", "x", "y", "year"};
        return oneIn(3) ? String.valueOf(number()) : words[draw(6)];
    }

    private String sum() {
        StringBuilder t = new StringBuilder(part());
        while (oneIn(3)) {
            t.append(blank()).append("+").append(blank()).append(part());
        }
        return t.toString();
    }

    private String atom(int left) {
        String[] words = {"gate", "string", "across"};
        return switch (draw(left > 0 ? 5 : 3)) {
            case 0 -> words[draw(3)];
            case 1, 2 -> sum() + blank() + (coin() ? "<" : ">") + sum();
            case 3 -> "not " + atom(left - 1);
            default -> "(" + condition(left - 1) + blank() + ")";
        };
    }

    private String condition(int left) {
        StringBuilder t = new StringBuilder(atom(left));
        while (oneIn(2)) {
            t.append(coin() ? " or " : " and ").append(atom(left));
        }
        return t.toString();
    }

    private String lawLine() {
        String[] kinds = {"grow", "sink", "sore"};
        String t = kinds[draw(3)] + " " + (oneIn(15) ? draw(70) : draw(13));
        return oneIn(3) ? t : t + " if " + condition(draw(7));
    }

    private String text(boolean law) {
        StringBuilder t = new StringBuilder(blank());
        int lines = oneIn(10) ? 12 + draw(4) : draw(6);
        for (int i = 0; i < lines && t.length() < 360; i++) {
            t.append(i == 0 ? "" : blank() + ";" + blank()).append(law ? lawLine() : countyLine());
        }
        t.append(blank());
        if (oneIn(3) && t.length() > 0) {
            int at = draw(t.length());
            char[] signs = {' ', ';', '(', ')', '+', '<', '>', 'x', 'e', '7', '\u00ff', '\0', 'A'};
            switch (draw(3)) {
                case 0 -> t.deleteCharAt(at);
                case 1 -> t.insert(at, signs[draw(signs.length)]);
                default -> t.setCharAt(at, signs[draw(signs.length)]);
            }
        }
        t.setLength(Math.min(400, t.length()));
        return t.toString();
    }

    private void texts() {
        if (!oneIn(3)) {
            return;
        }
        boolean law = coin();
        feedText(text(law));
        if (law != oneIn(20)) {
            both("law", () -> x.law(), () -> m.law());
        } else {
            both("county", () -> x.county(), () -> m.county());
        }
        both("fault", () -> x.fault(), () -> m.fault());
    }

    // ---- acts ----

    private int border() {
        return oneIn(40) ? draw(2) * 61 - 1 : draw(60);
    }

    private int cell() {
        return oneIn(40) ? draw(2) * 37 - 1 : draw(36);
    }

    private int family() {
        return oneIn(12) ? draw(8) - 1 : draw(Math.max(1, m.count(0)));
    }

    private int anyHeight() {
        return oneIn(30) ? draw(2) * 1001 - 1 : oneIn(10) ? draw(2) * 999 : height();
    }

    private void acts() {
        int b = border();
        int f = family();
        int h = anyHeight();
        int c = cell();
        boolean is = coin();
        switch (draw(11)) {
            case 0, 1 -> both("raise(" + b + ")", () -> x.raise(b), () -> m.raise(b));
            case 2 -> both("pull(" + b + ")", () -> x.pull(b), () -> m.pull(b));
            case 3 -> both("gate(" + b + ", " + is + ")", () -> bit(x.gate(b, is)), () -> bit(m.gate(b, is)));
            case 4 -> both("string(" + b + ", " + is + ")", () -> bit(x.string(b, is)), () -> bit(m.string(b, is)));
            case 5 -> both("again(" + b + ", " + h + ")", () -> x.again(b, h), () -> m.again(b, h));
            case 6 -> both("forgive(" + f + ")", () -> x.forgive(f), () -> m.forgive(f));
            case 7 -> both("move(" + f + ", " + c + ")", () -> x.move(f, c), () -> m.move(f, c));
            case 8 -> both("learn(" + f + ", " + h + ")", () -> x.learn(f, h), () -> m.learn(f, h));
            default -> {
                int n = oneIn(10) ? draw(103) - 1 : 1 + draw(4);
                both("years(" + n + ")", () -> x.years(n), () -> m.years(n));
            }
        }
    }

    private void rare() {
        int n = draw(1 << 30) * (coin() ? 3 : -3);
        switch (draw(9)) {
            case 0, 1, 2, 3 -> both("undo", () -> bit(x.undo()), () -> bit(m.undo()));
            case 4 -> both("seed(" + n + ")", () -> x.seed(n), () -> m.seed(n));
            case 5 -> both("image", () -> {
                x.image();
                return 0;
            }, () -> {
                m.image();
                return 0;
            });
            case 6 -> {
                if (oneIn(4)) {
                    both("back", () -> bit(x.back()), () -> bit(m.back()));
                }
            }
            case 7 -> both("end(" + n + ")", () -> bit(x.end(n)), () -> bit(m.end(n)));
            default -> sightings();
        }
    }

    private void sightings() {
        StringBuilder t = new StringBuilder();
        int put = draw(100);
        int grew = draw(10);
        int rows = oneIn(10) ? 20 + draw(2) : draw(4);
        for (int i = 0; i < rows; i++) {
            int year = oneIn(30) ? 100 + draw(2) : draw(100);
            int high = Math.max(0, year - put) * grew + draw(3) - 1;
            t.append((char) year).append((char) Math.max(0, Math.min(255, high)));
        }
        if (oneIn(15)) {
            t.append('\0');
        }
        feedText(t.toString());
        boolean best = coin();
        if (coin()) {
            both("seen(" + best + ")", () -> x.seen(best), () -> m.seen(best));
        } else {
            both("ask", () -> x.ask(), () -> m.ask());
        }
    }

    // ---- questions ----

    private void ways() {
        int b = border();
        int f = family();
        int g = family();
        int h = anyHeight();
        int c = cell();
        int d = cell();
        switch (draw(12)) {
            case 0 -> both("open(" + b + ", " + h + ")", () -> bit(x.open(b, h)), () -> bit(m.open(b, h)));
            case 1 -> both("far(" + f + ", " + c + ")", () -> x.far(f, c), () -> m.far(f, c));
            case 2 -> both("meet(" + f + ", " + g + ")", () -> bit(x.meet(f, g)), () -> bit(m.meet(f, g)));
            case 3 -> both("halfway(" + f + ", " + g + ")", () -> x.halfway(f, g), () -> m.halfway(f, g));
            case 4 -> both("sees(" + f + ", " + c + ")", () -> bit(x.sees(f, c)), () -> bit(m.sees(f, c)));
            case 5 -> both("pulls(" + c + ", " + d + ", " + h + ")", () -> x.pulls(c, d, h), () -> m.pulls(c, d, h));
            case 6 -> both("lowest(" + c + ", " + d + ")", () -> x.lowest(c, d), () -> m.lowest(c, d));
            case 7 -> both("closes(" + c + ", " + d + ", " + h + ")",
                    () -> x.closes(c, d, h), () -> m.closes(c, d, h));
            case 8 -> both("one(" + c + ", " + d + ")", () -> x.one(c, d), () -> m.one(c, d));
            case 9 -> both("loses(" + f + ", " + b + ")", () -> x.loses(f, b), () -> m.loses(f, b));
            case 10 -> both("between(" + c + ", " + d + ")", () -> x.between(c, d), () -> m.between(c, d));
            default -> {
                int k = oneIn(20) ? draw(2) * 50 - 1 : draw(49);
                int l = oneIn(20) ? draw(2) * 50 - 1 : draw(49);
                both("walk(" + k + ", " + l + ", " + h + ")", () -> x.walk(k, l, h), () -> m.walk(k, l, h));
            }
        }
    }

    private void lands() {
        int c = cell();
        int h = anyHeight();
        switch (draw(10)) {
            case 0 -> both("lands(" + h + ")", () -> x.lands(h), () -> m.lands(h));
            case 1 -> both("wide(" + h + ")", () -> x.wide(h), () -> m.wide(h));
            case 2 -> both("land(" + c + ", " + h + ")", () -> x.land(c, h), () -> m.land(c, h));
            case 3 -> both("gaps(" + h + ")", () -> x.gaps(h), () -> m.gaps(h));
            case 4 -> both("all(" + h + ")", () -> bit(x.all(h)), () -> bit(m.all(h)));
            case 5 -> both("reach", () -> x.reach(), () -> m.reach());
            case 6 -> both("ladders", () -> x.ladders(), () -> m.ladders());
            case 7 -> both("hangs(" + h + ")", () -> x.hangs(h), () -> m.hangs(h));
            case 8 -> both("ends(" + h + ")", () -> x.ends(h), () -> m.ends(h));
            default -> {
                boolean most = coin();
                both("highest(" + most + ")", () -> x.highest(most), () -> m.highest(most));
            }
        }
    }

    private void families() {
        int f = family();
        int g = family();
        int n = draw(7) - 1;
        switch (draw(10)) {
            case 0 -> both("waves", () -> x.waves(), () -> m.waves());
            case 1 -> both("hidden", () -> x.hidden(), () -> m.hidden());
            case 2, 3 -> both("pairs(" + f + ")", () -> x.pairs(f), () -> m.pairs(f));
            case 4 -> both("pairs(-1)", () -> x.pairs(-1), () -> m.pairs(-1));
            case 5 -> both("rests(" + f + ", " + g + ")", () -> x.rests(f, g), () -> m.rests(f, g));
            case 6 -> both("odds(" + f + ", " + n + ")", () -> x.odds(f, n), () -> m.odds(f, n));
            case 7 -> both("sorest", () -> x.sorest(), () -> m.sorest());
            case 8 -> both("twins", () -> x.twins(), () -> m.twins());
            default -> {
                int what = draw(11) - 1;
                both("family(" + f + ", " + what + ")", () -> x.family(f, what), () -> m.family(f, what));
            }
        }
    }

    private void state() {
        int b = border();
        int n = oneIn(6) ? draw(103) - 1 : draw(12);
        boolean is = coin();
        switch (draw(10)) {
            case 0, 1 -> {
                int what = draw(9) - 1;
                both("border(" + b + ", " + what + ")", () -> x.border(b, what), () -> m.border(b, what));
            }
            case 2 -> both("oldest", () -> x.oldest(), () -> m.oldest());
            case 3 -> both("ahead(" + b + ", " + n + ")", () -> x.ahead(b, n), () -> m.ahead(b, n));
            case 4 -> both("trial(" + n + ", " + is + ")", () -> x.trial(n, is), () -> m.trial(n, is));
            case 5 -> both("span(" + n + ", " + is + ")", () -> x.span(n, is), () -> m.span(n, is));
            case 6 -> both("led(" + b + ", " + is + ")", () -> x.led(b, is), () -> m.led(b, is));
            case 7, 8 -> {
                int ago = oneIn(3) ? draw(64) - 2 : draw(8);
                int what = oneIn(20) ? draw(2) * 6 - 1 : draw(5);
                both("log(" + ago + ", " + what + ")", () -> x.log(ago, what), () -> m.log(ago, what));
            }
            default -> {
                int what = draw(14) - 1;
                both("count(" + what + ")", () -> x.count(what), () -> m.count(what));
            }
        }
    }
}
