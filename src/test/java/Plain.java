import java.util.ArrayList;
import java.util.HashSet;
import java.util.List;
import java.util.Objects;
import java.util.Set;
import java.util.TreeMap;

/**
 * The document once more, in the plainest form and with the Java library, read by characters and
 * walked by recursion: what RandomRunsTest compares the class with.
 */
final class Plain {
    /** The text cannot be read; the place is where. */
    private static final class Wrong extends Exception {
        private static final long serialVersionUID = 1;
        final int place;

        Wrong(int place) {
            this.place = place;
        }
    }

    /** An argument: its sort, and a number, a text or a list. */
    private record Arg(int sort, int number, String text, List<Integer> list) {
        int value() {
            return sort == 1 || sort == 5 ? text.length() : sort == 3 || sort == 4 ? list.size() : number;
        }

        List<Integer> references() {
            return sort == 2 ? List.of(number) : sort == 4 ? list : List.of();
        }
    }

    private record Line(String name, List<Arg> args) {
    }

    private record Kind(String name, String sorts, List<Boolean> maybe) {
    }

    private String text = "";
    private List<Kind> kinds = new ArrayList<>();
    private TreeMap<Integer, Line> model = new TreeMap<>();
    private TreeMap<Integer, Line> kept = new TreeMap<>();
    private int at;

    // ---- reading by characters

    private char here() {
        while (at < text.length() && text.charAt(at) == ' ') {
            at++;
        }
        return at < text.length() ? text.charAt(at) : '\0';
    }

    private void must(char sign) throws Wrong {
        if (here() != sign) {
            throw new Wrong(at);
        }
        at++;
    }

    private String run(String letters, int most, int blame) throws Wrong {
        here();
        int begin = at;
        while (at < text.length() && letters.indexOf(text.charAt(at)) >= 0) {
            at++;
        }
        if (at == begin) {
            throw new Wrong(begin);
        }
        if (at - begin > most) {
            throw new Wrong(blame < 0 ? begin : blame);
        }
        return text.substring(begin, at);
    }

    private String name() throws Wrong {
        return run("ABCDEFGHIJKLMNOPQRSTUVWXYZ", 8, -1);
    }

    private int lineNumber(Set<Integer> taken) throws Wrong {
        must('#');
        here();
        int begin = at;
        int number = Integer.parseInt(run("0123456789", 3, -1));
        if (number == 0 || taken.contains(number)) {
            throw new Wrong(begin);
        }
        return number;
    }

    private int number() throws Wrong {
        boolean minus = here() == '-';
        int begin = at;
        at += minus ? 1 : 0;
        int number = Integer.parseInt(run("0123456789", 9, begin));
        return minus ? -number : number;
    }

    private Arg quoted() throws Wrong {
        int begin = at;
        StringBuilder inside = new StringBuilder();
        at++;
        while (true) {
            if (at >= text.length()) {
                throw new Wrong(begin);
            }
            if (text.startsWith("''", at)) {
                at++;
            } else if (text.charAt(at) == '\'') {
                break;
            }
            inside.append(text.charAt(at));
            at++;
        }
        at++;
        if (inside.length() > 20) {
            throw new Wrong(begin);
        }
        return new Arg(1, 0, inside.toString(), null);
    }

    private Arg list() throws Wrong {
        must('(');
        List<Integer> items = new ArrayList<>();
        if (here() == ')') {
            at++;
            return new Arg(3, 0, null, items);
        }
        boolean refers = here() == '#';
        while (true) {
            if (here() != '\0' && items.size() == 6) {
                throw new Wrong(at);
            }
            items.add(refers ? lineNumber(Set.of()) : number());
            if (here() == ')') {
                at++;
                return new Arg(refers ? 4 : 3, 0, null, items);
            }
            must(',');
        }
    }

    private Arg arg() throws Wrong {
        switch (here()) {
            case '#':
                return new Arg(2, lineNumber(Set.of()), null, null);
            case '\'':
                return quoted();
            case '$':
                at++;
                return new Arg(6, 0, null, null);
            case '.':
                at++;
                String name = name();
                must('.');
                return new Arg(5, 0, name, null);
            case '(':
                return list();
            default:
                return new Arg(0, number(), null, null);
        }
    }

    private List<Arg> args() throws Wrong {
        List<Arg> args = new ArrayList<>();
        must('(');
        while (true) {
            here();
            if (args.size() == 8) {
                throw new Wrong(at);
            }
            args.add(arg());
            if (here() == ')') {
                at++;
                return args;
            }
            must(',');
        }
    }

    int schema() {
        List<Kind> found = new ArrayList<>();
        at = 0;
        try {
            while (here() != '\0') {
                int begin = at;
                String name = name();
                if (found.size() == 12 || found.stream().anyMatch(k -> k.name().equals(name))) {
                    throw new Wrong(begin);
                }
                must('=');
                found.add(sorts(name));
            }
        } catch (Wrong e) {
            return -1 - e.place;
        }
        kinds = found;
        text = "";
        return kinds.size();
    }

    private Kind sorts(String name) throws Wrong {
        StringBuilder sorts = new StringBuilder();
        List<Boolean> maybe = new ArrayList<>();
        do {
            if (here() == '\0' || "ITRLME".indexOf(here()) < 0 || sorts.length() == 8) {
                throw new Wrong(at);
            }
            sorts.append(here());
            at++;
            boolean nothing = here() == '?';
            maybe.add(nothing);
            at += nothing ? 1 : 0;
        } while (here() != ';');
        at++;
        return new Kind(name, sorts.toString(), maybe);
    }

    int read() {
        TreeMap<Integer, Line> found = new TreeMap<>();
        List<Integer> inText = new ArrayList<>();
        at = 0;
        try {
            while (here() != '\0') {
                if (found.size() == 40) {
                    throw new Wrong(at);
                }
                int number = lineNumber(found.keySet());
                must('=');
                String name = name();
                Line line = new Line(name, args());
                must(';');
                found.put(number, line);
                inText.add(number);
            }
        } catch (Wrong e) {
            return -1 - e.place;
        }
        for (int number : inText) {
            if (!found.keySet().containsAll(references(found.get(number)))) {
                return -10000 - number;
            }
        }
        model = found;
        text = "";
        return model.size();
    }

    // ---- the text

    int say(long word) {
        StringBuilder more = new StringBuilder();
        for (byte b : java.nio.ByteBuffer.allocate(8).putLong(word).array()) {
            if (b != 0 && (b < 32 || b > 126)) {
                throw new IllegalArgumentException();
            }
            if (b != 0) {
                more.append((char) b);
            }
        }
        if (text.length() + more.length() > 1200) {
            throw new IllegalStateException();
        }
        text += more;
        return text.length();
    }

    int trim(int n) {
        demand(n >= 0 && n <= text.length());
        text = text.substring(0, text.length() - n);
        return text.length();
    }

    int charAt(int i) {
        demand(i >= 0 && i < text.length());
        return text.charAt(i);
    }

    int write() {
        StringBuilder out = new StringBuilder();
        model.forEach((number, line) -> {
            List<String> args = new ArrayList<>();
            line.args().forEach(a -> args.add(written(a)));
            out.append("#" + number + "=" + line.name() + "(" + String.join(",", args) + ");");
        });
        if (out.length() > 1200) {
            return -2;
        }
        text = out.toString();
        return text.length();
    }

    private static String written(Arg a) {
        return switch (a.sort()) {
            case 0 -> "" + a.number();
            case 1 -> "'" + a.text().replace("'", "''") + "'";
            case 2 -> "#" + a.number();
            case 3 -> a.list().toString().replace('[', '(').replace(']', ')').replace(" ", "");
            case 4 -> a.list().toString().replace("[", "(#").replace(']', ')').replace(", ", ",#");
            case 5 -> "." + a.text() + ".";
            default -> "$";
        };
    }

    // ---- the model

    private static void demand(boolean fine) {
        if (!fine) {
            throw new IllegalArgumentException();
        }
    }

    private static List<Integer> references(Line line) {
        List<Integer> all = new ArrayList<>();
        line.args().forEach(a -> all.addAll(a.references()));
        return all;
    }

    private Line lineOf(int number) {
        demand(model.containsKey(number));
        return model.get(number);
    }

    private Arg argOf(int number, int k) {
        Line line = lineOf(number);
        demand(k >= 0 && k < line.args().size());
        return line.args().get(k);
    }

    private static int kth(List<Integer> all, int k) {
        return k < all.size() ? all.get(k) : -1;
    }

    private Set<Integer> reached(int number) {
        Set<Integer> seen = new HashSet<>();
        List<Integer> open = new ArrayList<>(references(model.get(number)));
        while (!open.isEmpty()) {
            int next = open.remove(open.size() - 1);
            if (seen.add(next)) {
                open.addAll(references(model.get(next)));
            }
        }
        return seen;
    }

    private boolean onRing(int number) {
        return reached(number).contains(number);
    }

    private boolean toRing(int number) {
        return onRing(number) || reached(number).stream().anyMatch(this::onRing);
    }

    private int depth(int number) {
        int depth = 0;
        for (int next : new HashSet<>(references(model.get(number)))) {
            depth = Math.max(depth, 1 + depth(next));
        }
        return depth;
    }

    int keep() {
        kept = new TreeMap<>(model);
        return kept.size();
    }

    int line(int place) {
        demand(place >= 0);
        return kth(new ArrayList<>(model.keySet()), place);
    }

    int told(int number, int what) {
        Line line = lineOf(number);
        demand(what >= 0 && what <= 3);
        if (what == 0) {
            return kindOf(line);
        }
        if (what == 1) {
            return line.args().size();
        }
        return what == 2 ? references(line).size() : toRing(number) ? -1 : depth(number);
    }

    private int kindOf(Line line) {
        List<String> names = new ArrayList<>();
        kinds.forEach(k -> names.add(k.name()));
        return names.indexOf(line.name());
    }

    int argument(int number, int k, int what) {
        Arg a = argOf(number, k);
        demand(what == 0 || what == 1);
        return what == 0 ? a.sort() : a.value();
    }

    int item(int number, int k, int i) {
        Arg a = argOf(number, k);
        demand(a.text() != null || a.list() != null);
        demand(i >= 0 && i < a.value());
        return a.text() != null ? a.text().charAt(i) : a.list().get(i);
    }

    int set(int number, int k, int v) {
        Arg a = argOf(number, k);
        demand(Math.abs((long) v) <= 999999999 && a.sort() == 0);
        List<Arg> args = new ArrayList<>(model.get(number).args());
        args.set(k, new Arg(0, v, null, null));
        model.put(number, new Line(model.get(number).name(), args));
        return a.number();
    }

    int wrong(int k, int what) {
        demand(k >= 0 && what >= 0 && what <= 2);
        List<int[]> all = new ArrayList<>();
        model.forEach((number, line) -> {
            int kind = kindOf(line);
            if (kind < 0) {
                all.add(new int[] {number, 1, -1});
            } else if (kinds.get(kind).sorts().length() != line.args().size()) {
                all.add(new int[] {number, 2, -1});
            } else {
                for (int i = 0; i < line.args().size(); i++) {
                    if (!fits(kinds.get(kind), i, line.args().get(i))) {
                        all.add(new int[] {number, 3, i});
                        break;
                    }
                }
            }
        });
        return k < all.size() ? all.get(k)[what] : -1;
    }

    private static boolean fits(Kind kind, int i, Arg a) {
        char sort = kind.sorts().charAt(i);
        if (a.sort() == 6) {
            return kind.maybe().get(i);
        }
        return "ITRLME".charAt(a.sort()) == sort || a.sort() == 3 && a.list().isEmpty() && sort == 'M';
    }

    int from(int number, int k) {
        lineOf(number);
        demand(k >= 0);
        List<Integer> all = new ArrayList<>(model.keySet());
        all.removeIf(n -> !references(model.get(n)).contains(number));
        return kth(all, k);
    }

    int ring(int k) {
        demand(k >= 0);
        List<Integer> all = new ArrayList<>(model.keySet());
        all.removeIf(n -> !onRing(n));
        return kth(all, k);
    }

    private boolean placed(Line line) {
        List<Arg> a = line.args();
        return a.size() > 3 && a.get(0).sort() == 0 && a.get(1).sort() == 0 && a.get(2).sort() == 0
                && (a.get(3).sort() == 2 || a.get(3).sort() == 6);
    }

    long place(int number, int axis) {
        Line line = lineOf(number);
        demand(axis >= 0 && axis <= 2 && placed(line));
        Set<Integer> met = new HashSet<>();
        long sum = 0;
        int now = number;
        while (placed(model.get(now))) {
            if (!met.add(now)) {
                return 1000000000000L;
            }
            List<Arg> args = model.get(now).args();
            sum += args.get(axis).number();
            if (args.get(3).sort() == 6) {
                break;
            }
            now = args.get(3).number();
        }
        return sum;
    }

    boolean alike(int one, int other) {
        lineOf(one);
        lineOf(other);
        return one == other || !toRing(one) && !toRing(other) && unrolled(one).equals(unrolled(other));
    }

    /** A line with what it refers to in place of each reference. */
    private String unrolled(int number) {
        Line line = model.get(number);
        StringBuilder out = new StringBuilder(line.name() + "[");
        for (Arg a : line.args()) {
            out.append(a.sort()).append(':');
            if (a.references().isEmpty()) {
                out.append(written(a));
            }
            a.references().forEach(r -> out.append('<').append(unrolled(r)).append('>'));
            out.append('|');
        }
        return out.append(']').toString();
    }

    int join() {
        TreeMap<Integer, Integer> leads = new TreeMap<>();
        for (int number : model.keySet()) {
            int lead = number;
            for (int before : model.headMap(number).keySet()) {
                if (lead == number && alike(before, number)) {
                    lead = before;
                }
            }
            leads.put(number, lead);
        }
        TreeMap<Integer, Line> left = new TreeMap<>();
        model.forEach((number, line) -> {
            if (leads.get(number).equals(number)) {
                List<Arg> args = new ArrayList<>();
                line.args().forEach(a -> args.add(led(a, leads)));
                left.put(number, new Line(line.name(), args));
            }
        });
        int gone = model.size() - left.size();
        model = left;
        return gone;
    }

    private static Arg led(Arg a, TreeMap<Integer, Integer> leads) {
        if (a.sort() == 2) {
            return new Arg(2, leads.get(a.number()), null, null);
        }
        if (a.sort() == 4) {
            List<Integer> list = new ArrayList<>();
            a.list().forEach(r -> list.add(leads.get(r)));
            return new Arg(4, 0, null, list);
        }
        return a;
    }

    int differs(int k, int what) {
        demand(k >= 0 && (what == 0 || what == 1));
        TreeMap<Integer, Integer> all = new TreeMap<>();
        kept.keySet().forEach(n -> all.put(n, 1));
        model.forEach((n, line) -> {
            if (!kept.containsKey(n)) {
                all.put(n, 2);
            } else if (Objects.equals(kept.get(n), line)) {
                all.remove(n);
            } else {
                all.put(n, 3);
            }
        });
        return kth(new ArrayList<>(what == 0 ? all.keySet() : all.values()), k);
    }

    int count(int what) {
        demand(what >= 0 && what <= 3);
        return what == 0 ? text.length() : what == 1 ? kinds.size() : what == 2 ? model.size() : kept.size();
    }
}
