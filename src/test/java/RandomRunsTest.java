import java.util.Random;

/** Runs of calls drawn with fixed seeds, answered by the class and by Plain: all promises. */
public final class RandomRunsTest {
    private static final int RUNS = 12000;
    /** What later calls answer is free. */
    private static final int MOST_CALLS = 512;
    private static final String SIGNS = "=;#(),$.-? 'AIRTLMEX0123456789az+~\"";

    private final Due due;
    private final Random random;
    private final ExchangeText x = new ExchangeText();
    private final Plain plain = new Plain();
    private final int seed;
    private int calls;
    private int lines;
    /** Few names and arguments, so that many lines are alike. */
    private boolean narrow;

    private RandomRunsTest(Due due, int seed) {
        this.due = due;
        this.seed = seed;
        random = new Random(seed);
    }

    public static void main(String[] args) {
        Due due = new Due();
        for (int seed = 1; seed <= RUNS; seed++) {
            new RandomRunsTest(due, seed).run();
        }
        due.end();
    }

    private void same(String call, Due.Call mine, Due.Call its) {
        if (calls == MOST_CALLS) {
            return;
        }
        calls++;
        due.answers("run " + seed + ": " + call, Due.outcome(its), Due.outcome(mine));
    }

    private int upTo(int n) {
        return random.nextInt(n + 1);
    }

    private boolean chance(int percent) {
        return random.nextInt(100) < percent;
    }

    private void run() {
        while (calls < MOST_CALLS) {
            if (chance(40)) {
                say(spoilt(schema()));
                same("schema", x::schema, plain::schema);
            }
            if (chance(60)) {
                say(spoilt(model()));
                same("read", x::read, plain::read);
            }
            if (chance(50)) {
                same("keep", x::keep, plain::keep);
            }
            ask();
            if (chance(40)) {
                same("join", x::join, plain::join);
                ask();
            }
            if (chance(50)) {
                same("write", x::write, plain::write);
                texts();
            }
            if (chance(plain.count(0) > 0 ? 50 : 3)) {
                same("read", x::read, plain::read);
            }
            if (chance(plain.count(0) > 0 ? 20 : 3)) {
                same("schema", x::schema, plain::schema);
            }
            clear();
        }
    }

    private void clear() {
        int n = plain.count(0);
        same("trim " + n, () -> x.trim(n), () -> plain.trim(n));
    }

    private void say(String text) {
        for (int at = 0; at < text.length();) {
            int size = Math.min(text.length() - at, 1 + upTo(7));
            long word = Due.word(text.substring(at, at + size));
            same("say " + word, () -> x.say(word), () -> plain.say(word));
            at += size;
        }
        if (chance(5)) {
            long word = random.nextLong();
            same("say " + word, () -> x.say(word), () -> plain.say(word));
        }
    }

    private void texts() {
        for (int i = 0; i < 30; i++) {
            int at = chance(90) ? upTo(plain.count(0)) : some(1200);
            same("charAt " + at, () -> x.charAt(at), () -> plain.charAt(at));
        }
        int n = upTo(20) - 2;
        if (chance(20)) {
            same("trim " + n, () -> x.trim(n), () -> plain.trim(n));
        }
    }

    // ---- texts

    private String spoilt(String text) {
        StringBuilder out = new StringBuilder(text);
        int spoils = chance(70) ? 0 : 1 + upTo(1);
        for (int i = 0; i < spoils; i++) {
            int at = upTo(out.length());
            String sign = "" + SIGNS.charAt(upTo(SIGNS.length() - 1));
            if (at < out.length() && chance(50)) {
                out.deleteCharAt(at);
            }
            if (chance(70)) {
                out.insert(at, chance(80) ? sign : sign.repeat(upTo(12)));
            }
            if (chance(10)) {
                out.setLength(upTo(out.length()));
            }
        }
        return out.toString();
    }

    private String blank() {
        return chance(8) ? " ".repeat(1 + upTo(1)) : "";
    }

    private String schema() {
        StringBuilder out = new StringBuilder();
        int kinds = chance(10) ? 10 + upTo(4) : upTo(5);
        for (int i = 0; i < kinds; i++) {
            out.append(chance(95) ? "" + (char) ('A' + i) : name()).append(blank()).append('=');
            int sorts = chance(5) ? 7 + upTo(2) : 1 + upTo(4);
            for (int k = 0; k < sorts; k++) {
                out.append("ITRLME".charAt(upTo(5))).append(blank()).append(chance(30) ? "?" : "");
            }
            out.append(';').append(blank());
        }
        return out.toString();
    }

    private String name() {
        StringBuilder out = new StringBuilder();
        int size = chance(2) ? 7 + upTo(2) : chance(10) ? 2 : 1;
        for (int i = 0; i < size; i++) {
            out.append((char) ('A' + upTo(chance(80) ? 1 : 4)));
        }
        return out.toString();
    }

    private String model() {
        StringBuilder out = new StringBuilder();
        lines = chance(5) ? 38 + upTo(4) : 1 + upTo(11);
        narrow = chance(40);
        int way = narrow || chance(60) ? 0 : upTo(2);
        boolean brief = lines > 30;
        for (int i = 1; i <= lines; i++) {
            int number = way == 0 ? i : way == 1 ? lines + 1 - i : (i * 7) % 41 + 1;
            out.append(blank()).append('#').append(blank()).append(chance(5) ? "0" : "").append(number).append(blank());
            out.append('=').append(brief || narrow ? "A" : name()).append('(');
            int args = chance(1) ? 7 + upTo(2) : 1 + upTo(brief ? 1 : chance(70) ? 0 : 3);
            if (!narrow && chance(30)) {
                out.append(upTo(3)).append(',').append(upTo(3)).append(",-").append(upTo(99)).append(',');
                args = 1;
            }
            for (int k = 0; k < args; k++) {
                out.append(k > 0 ? "," : "").append(blank()).append(arg(i)).append(blank());
            }
            out.append(");");
        }
        return out.toString();
    }

    private String reference(int i) {
        int most = chance(99) ? lines : 1000;
        // Mostly backwards, so that depths are reached and not all lines come to rings.
        return "#" + (chance(90) && i > 1 ? 1 + upTo(i - 2) : 1 + upTo(most - 1));
    }

    private String digits() {
        int kind = upTo(150);
        if (kind == 0) {
            return "0".repeat(upTo(9)) + upTo(99);
        }
        return kind == 1 ? "" + (100000000L + random.nextInt(2000000000)) : "" + upTo(1);
    }

    private String arg(int i) {
        if (narrow) {
            return chance(40) ? digits() : chance(60) ? reference(i) : "(" + reference(i) + ")";
        }
        switch (upTo(9)) {
            case 0:
            case 1:
                return (chance(20) ? "-" : "") + blank() + digits();
            case 2:
                return "'" + (chance(10) ? "ab''".repeat(upTo(8)) : "b".repeat(upTo(2))) + "'";
            case 3:
            case 4:
            case 5:
                return reference(i);
            case 6:
                return "." + name() + ".";
            case 7:
                return "$";
            default:
                return items(i);
        }
    }

    private String items(int i) {
        StringBuilder out = new StringBuilder("(");
        boolean refers = chance(60);
        int size = chance(2) ? 5 + upTo(2) : upTo(2);
        for (int k = 0; k < size; k++) {
            boolean odd = random.nextInt(300) == 0;
            out.append(k > 0 ? "," : "").append(refers != odd ? reference(i) : (chance(20) ? "-" : "") + digits());
        }
        return out.append(")").toString();
    }

    // ---- questions

    private int some(int most) {
        return upTo(most + 2) - 1;
    }

    private int someLine() {
        return chance(95) ? 1 + upTo(Math.min(lines, 13)) : some(1000);
    }

    private void ask() {
        for (int i = 0; i < 5; i++) {
            askLine(someLine());
            askModel(chance(50) ? some(3) : some(13));
        }
        for (int k = upTo(3); k <= lines; k += 1 + upTo(3)) {
            int at = k;
            same("line " + at, () -> x.line(at), () -> plain.line(at));
            same("ring " + at, () -> x.ring(at), () -> plain.ring(at));
            same("differs " + at, () -> x.differs(at, 0), () -> plain.differs(at, 0));
            same("wrong " + at, () -> x.wrong(at, 0), () -> plain.wrong(at, 0));
            same("depth " + at, () -> x.told(at, 3), () -> plain.told(at, 3));
            same("place " + at, () -> x.place(at, at % 3), () -> plain.place(at, at % 3));
        }
    }

    private void askLine(int line) {
        int k = some(4);
        int what = some(3);
        int i = some(6);
        int other = someLine();
        same("told " + line + " " + what, () -> x.told(line, what), () -> plain.told(line, what));
        same("argument " + line + " " + k + " 0", () -> x.argument(line, k, 0), () -> plain.argument(line, k, 0));
        same("argument " + line + " " + k + " " + what, () -> x.argument(line, k, what),
                () -> plain.argument(line, k, what));
        same("item " + line + " " + k + " " + i, () -> x.item(line, k, i), () -> plain.item(line, k, i));
        same("from " + line + " " + k, () -> x.from(line, k), () -> plain.from(line, k));
        same("place " + line + " " + what, () -> x.place(line, what), () -> plain.place(line, what));
        same("alike " + line + " " + other, () -> Due.one(x.alike(line, other)),
                () -> Due.one(plain.alike(line, other)));
        if (chance(10)) {
            int v = chance(60) ? upTo(1) : chance(70) ? -999999999 : random.nextInt();
            same("set " + line + " " + k + " " + v, () -> x.set(line, k, v), () -> plain.set(line, k, v));
        }
    }

    private void askModel(int k) {
        int what = some(3);
        same("line " + k, () -> x.line(k), () -> plain.line(k));
        same("wrong " + k + " " + what, () -> x.wrong(k, what), () -> plain.wrong(k, what));
        same("ring " + k, () -> x.ring(k), () -> plain.ring(k));
        same("differs " + k + " " + what, () -> x.differs(k, what), () -> plain.differs(k, what));
        same("count " + what, () -> x.count(what), () -> plain.count(what));
    }
}
