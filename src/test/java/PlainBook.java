import java.util.ArrayList;
import java.util.List;
import java.util.regex.Matcher;
import java.util.regex.Pattern;

/**
 * The document's words once more, as plainly as can be and in another form than the class:
 * kinds are classes, sets are walked anew for each question, nothing is reckoned beforehand.
 */
final class PlainBook {
    static final int BEYOND = -1000000001, FULL = -1000000002, KIND = -1000000003, NONE = -1000000004,
            STATE = -1000000005, MISSING = -1000000006, SIZE = -1000000007;

    static final class Want {
        int topic, worth, day;
        boolean hurry, count;

        Want(int topic, int worth, int day) {
            this.topic = topic;
            this.worth = worth;
            this.day = day;
        }
    }

    static class Phrase {
        int topic, minutes, sound, held, used;

        int gain(Want w, List<Phrase> set) {
            return topic == w.topic ? w.worth * sound / 10 : 0;
        }

        int forgets() {
            return 10;
        }

        int kind() {
            return 0;
        }
    }

    static class Thing extends Phrase {
        @Override int gain(Want w, List<Phrase> set) {
            int whole = super.gain(w, set);
            return set.stream().anyMatch(p -> p instanceof Rope) ? whole : whole / 2;
        }

        @Override int forgets() {
            return super.forgets() + 5;
        }

        @Override int kind() {
            return 1;
        }
    }

    static class Rope extends Phrase {
        @Override int gain(Want w, List<Phrase> set) {
            return w.worth / 4;
        }

        @Override int forgets() {
            return super.forgets() / 2;
        }

        @Override int kind() {
            return 2;
        }
    }

    static final class Number extends Thing {
        @Override int gain(Want w, List<Phrase> set) {
            return w.count ? super.gain(w, set) : super.gain(w, set) / 3;
        }

        @Override int forgets() {
            return super.forgets() + 5;
        }

        @Override int kind() {
            return 3;
        }
    }

    static final class Mending extends Rope {
        @Override int gain(Want w, List<Phrase> set) {
            return super.gain(w, set) + 1;
        }

        @Override int kind() {
            return 4;
        }
    }

    static final class Urgent extends Phrase {
        @Override int gain(Want w, List<Phrase> set) {
            return w.hurry ? 3 * super.gain(w, set) : super.gain(w, set);
        }

        @Override int forgets() {
            return super.forgets() + (held > 50 ? (held - 50) / 2 : 0);
        }

        @Override int kind() {
            return 5;
        }
    }

    static final Class<?>[] KINDS = {Phrase.class, Thing.class, Rope.class, Number.class, Mending.class, Urgent.class};

    static Phrase make(int kind, int topic, int minutes, int sound) {
        Phrase p = switch (kind) {
            case 0 -> new Phrase();
            case 1 -> new Thing();
            case 2 -> new Rope();
            case 3 -> new Number();
            case 4 -> new Mending();
            default -> new Urgent();
        };
        p.topic = topic;
        p.minutes = minutes;
        p.sound = sound;
        return p;
    }

    /** All that section 1 tells, but the tape. */
    static final class State {
        List<Phrase> phrases = new ArrayList<>();
        List<Want> wants = new ArrayList<>();
        List<Integer> order = new ArrayList<>();
        int line = 60, day = 0, score = 0;

        State twin() {
            State t = new State();
            for (Phrase p : phrases) {
                Phrase q = make(p.kind(), p.topic, p.minutes, p.sound);
                q.held = p.held;
                q.used = p.used;
                t.phrases.add(q);
            }
            for (Want w : wants) {
                Want v = new Want(w.topic, w.worth, w.day);
                v.hurry = w.hurry;
                v.count = w.count;
                t.wants.add(v);
            }
            t.order.addAll(order);
            t.line = line;
            t.day = day;
            t.score = score;
            return t;
        }

        List<Phrase> members(int set) {
            List<Phrase> found = new ArrayList<>();
            for (int i = 0; i < phrases.size(); i++) {
                if ((set & 1 << i) != 0) {
                    found.add(phrases.get(i));
                }
            }
            return found;
        }

        int met(Want w, int set) {
            List<Phrase> members = members(set);
            int most = w.worth / 10;
            for (Phrase p : members) {
                most = Math.max(most, p.gain(w, members));
            }
            if (members.stream().anyMatch(p -> p instanceof Mending)) {
                most += w.worth / 5;
            }
            return Math.min(most, w.worth);
        }

        int value(int set) {
            return wants.stream().mapToInt(w -> met(w, set)).sum();
        }

        int minutes(int set) {
            return members(set).stream().mapToInt(p -> p.minutes).sum();
        }

        int by(Want w, int set) {
            List<Phrase> members = members(set);
            Phrase found = null;
            for (Phrase p : members) {
                int g = p.gain(w, members);
                if (g > w.worth / 10 && (found == null || g > found.gain(w, members))) {
                    found = p;
                }
            }
            return found == null ? -1 : phrases.indexOf(found);
        }

        int known() {
            int set = 0;
            for (int i = 0; i < phrases.size(); i++) {
                set += phrases.get(i).held >= line ? 1 << i : 0;
            }
            return set;
        }

        int held() {
            return phrases.stream().mapToInt(p -> p.held).sum();
        }

        void learn(int i, int m) {
            Phrase p = phrases.get(i);
            p.held = Math.min(100, p.held + 100 * m / p.minutes);
        }

        int evening(int m) {
            for (int i : order) {
                if (phrases.get(i).held < line && m > 0) {
                    int spent = Math.min(m, phrases.get(i).minutes);
                    learn(i, spent);
                    m -= spent;
                }
            }
            return m;
        }

        State go(int n) {
            for (int d = 0; d < n; d++) {
                int set = known();
                List<Integer> used = new ArrayList<>();
                for (Want w : wants) {
                    if (w.day == day) {
                        score += met(w, set);
                        int by = by(w, set);
                        if (by >= 0) {
                            phrases.get(by).used++;
                            used.add(by);
                        }
                    }
                }
                for (int i = 0; i < phrases.size(); i++) {
                    Phrase p = phrases.get(i);
                    p.held = used.contains(i) ? Math.min(100, p.held + 10) : Math.max(0, p.held - p.forgets());
                }
                day++;
            }
            return this;
        }

        int best(int m) {
            int best = 0;
            for (int set = 0; set < 1 << phrases.size(); set++) {
                int dv = minutes(set) > m ? -1 : value(set) - value(best);
                if (dv > 0 || dv == 0 && minutes(set) < minutes(best)) {
                    best = set;
                }
            }
            return best;
        }

        int greedy(int m) {
            int set = 0;
            while (true) {
                int found = -1, more = 0;
                for (int i = 0; i < phrases.size(); i++) {
                    Phrase p = phrases.get(i);
                    if ((set & 1 << i) != 0 || p.minutes + minutes(set) > m) {
                        continue;
                    }
                    int brings = value(set | 1 << i) - value(set);
                    if (brings > more || brings == more && found >= 0 && p.minutes < phrases.get(found).minutes) {
                        found = i;
                        more = brings;
                    }
                }
                if (found < 0) {
                    return set;
                }
                set |= 1 << found;
            }
        }
    }

    State st = new State();
    State kept = null;
    byte[] tape = new byte[0];
    final int[] bits = new int[4];
    final long[][] sheets = new long[4][];
    final int[] told = new int[7];

    static boolean in(long v, int least, int most) {
        return least <= v && v <= most;
    }

    boolean phraseIs(int p) {
        return in(p, 0, st.phrases.size() - 1);
    }

    boolean wantIs(int w) {
        return in(w, 0, st.wants.size() - 1);
    }

    boolean setIs(int set) {
        return in(set, 0, (1 << st.phrases.size()) - 1);
    }

    /** The answer that is due for a call. */
    long call(String name, long[] a) {
        int status = -1;
        long answer;
        if (name.equals("write")) {
            answer = write((int) a[0], (int) a[1], a[2]);
            // A number that was written may look like a finding, but isn't one.
            status = sheetFinding((int) a[0], (int) a[1]);
        } else {
            int[] b = new int[5];
            for (int i = 0; i < a.length; i++) {
                b[i] = (int) a[i];
            }
            answer = act(name, b[0], b[1], b[2], b[3], b[4]);
            status = answer < -1000000000 ? (int) (BEYOND - answer) : -1;
        }
        if (status >= 0) {
            told[status]++;
        }
        return answer;
    }

    private int sheetFinding(int s, int i) {
        if (!in(s, 0, 3)) {
            return 0;
        }
        if (sheets[s] == null) {
            return 5;
        }
        return in(i, 0, sheets[s].length - 1) ? -1 : 0;
    }

    private long write(int s, int i, long v) {
        int f = sheetFinding(s, i);
        if (f >= 0) {
            return BEYOND - f;
        }
        long was = sheets[s][i];
        sheets[s][i] = bits[s] == 8 ? (byte) v : bits[s] == 16 ? (short) v : v;
        return was;
    }

    private int act(String name, int a, int b, int c, int d, int e) {
        switch (name) {
            case "phrase": {
                if (!in(a, 0, 5) || !in(b, 0, 9) || !in(c, 1, 60) || !in(d, 0, 10)) return BEYOND;
                if (st.phrases.size() == 12) return FULL;
                st.phrases.add(make(a, b, c, d));
                return st.phrases.size() - 1;
            }
            case "of": {
                if (!phraseIs(a) || !in(b, 0, 7)) return BEYOND;
                Phrase p = st.phrases.get(a);
                return new int[] {p.kind(), p.topic, p.minutes, p.sound, p.held, p.used,
                    p.held >= st.line ? 1 : 0, p.forgets()}[b];
            }
            case "set": return setCall(a, b, c);
            case "turn": {
                if (!phraseIs(a) || !in(b, 0, 5)) return BEYOND;
                Phrase p = st.phrases.get(a);
                Phrase q = make(b, p.topic, p.minutes, p.sound);
                q.held = p.held;
                q.used = p.used;
                st.phrases.set(a, q);
                return p.kind();
            }
            case "as": {
                if (!phraseIs(a) || !in(b, 0, 5)) return BEYOND;
                return KINDS[b].isInstance(st.phrases.get(a)) ? st.phrases.get(a).held : KIND;
            }
            case "want": {
                if (!in(a, 0, 9) || !in(b, 0, 99) || !in(c, 0, 99)) return BEYOND;
                if (st.wants.size() == 12) return FULL;
                st.wants.add(new Want(a, b, c));
                return st.wants.size() - 1;
            }
            case "wantOf": {
                if (!wantIs(a) || !in(b, 0, 4)) return BEYOND;
                Want w = st.wants.get(a);
                return new int[] {w.topic, w.worth, w.day, w.hurry ? 1 : 0, w.count ? 1 : 0}[b];
            }
            case "change": return changeCall(a, b, c);
            case "gain": {
                if (!phraseIs(a) || !wantIs(b) || !setIs(c)) return BEYOND;
                return st.phrases.get(a).gain(st.wants.get(b), st.members(c));
            }
            case "met": return wantIs(a) && setIs(b) ? st.met(st.wants.get(a), b) : BEYOND;
            case "value": return setIs(a) ? st.value(a) : BEYOND;
            case "by": {
                if (!wantIs(a) || !setIs(b)) return BEYOND;
                int by = st.by(st.wants.get(a), b);
                return by < 0 ? NONE : by;
            }
            case "best": {
                if (!in(a, 0, 720) || !in(b, 0, 2)) return BEYOND;
                int set = st.best(a);
                return new int[] {st.value(set), set, st.minutes(set)}[b];
            }
            case "greedy": {
                if (!in(a, 0, 720) || !in(b, 0, 1)) return BEYOND;
                int set = st.greedy(a);
                return b == 0 ? st.value(set) : set;
            }
            case "next": return nextCall(a);
            case "spare": return spareCall(a);
            case "minutesFor": {
                if (a < 0) return BEYOND;
                int fewest = NONE;
                for (int set = 0; set < 1 << st.phrases.size(); set++) {
                    if (st.value(set) >= a && (fewest < 0 || st.minutes(set) < fewest)) fewest = st.minutes(set);
                }
                return fewest;
            }
            case "queue": {
                if (!phraseIs(a)) return BEYOND;
                st.order.remove((Integer) a);
                st.order.add(a);
                return st.order.size();
            }
            case "skip": {
                if (!phraseIs(a)) return BEYOND;
                int place = st.order.indexOf(a);
                if (place < 0) return NONE;
                st.order.remove(place);
                return place;
            }
            case "ith": return in(a, 0, st.order.size() - 1) ? st.order.get(a) : BEYOND;
            case "learn": {
                if (!phraseIs(a) || !in(b, 1, 600)) return BEYOND;
                st.learn(a, b);
                return st.phrases.get(a).held;
            }
            case "evening": return in(a, 0, 600) ? st.evening(a) : BEYOND;
            case "line": {
                if (!in(a, 1, 100)) return BEYOND;
                int was = st.line;
                st.line = a;
                return was;
            }
            case "known": return st.known();
            case "days": {
                if (!in(a, 1, 30)) return BEYOND;
                if (st.day + a > 99) return STATE;
                int was = st.score;
                st.go(a);
                return st.score - was;
            }
            case "now": {
                if (!in(a, 0, 3)) return BEYOND;
                return new int[] {st.day, st.line, st.score,
                    (int) st.wants.stream().filter(w -> w.day == st.day).count()}[a];
            }
            case "on": {
                if (!in(a, 0, 60) || !in(b, 0, 2)) return BEYOND;
                if (st.day + a > 99) return STATE;
                State t = st.twin().go(a);
                return new int[] {t.score, t.known(), t.held()}[b];
            }
            case "forgot": {
                if (!phraseIs(a)) return BEYOND;
                if (st.day > 39) return STATE;
                for (int n = 0; n <= 60; n++) {
                    State t = st.twin().go(n);
                    if (t.phrases.get(a).held < t.line) return n;
                }
                return NONE;
            }
            case "useless": {
                if (!in(a, 1, 60)) return BEYOND;
                if (st.day + a > 99) return STATE;
                State t = st.twin();
                t.phrases.forEach(p -> p.used = 0);
                t.go(a);
                int set = 0;
                for (int i = 0; i < t.phrases.size(); i++) {
                    if (t.phrases.get(i).used == 0) set |= 1 << i;
                }
                return set;
            }
            case "tonight": {
                if (!in(a, 1, 60)) return BEYOND;
                if (st.day + a > 99) return STATE;
                int most = st.twin().go(a).score;
                int found = NONE;
                for (int i = 0; i < st.phrases.size(); i++) {
                    State t = st.twin();
                    t.learn(i, t.phrases.get(i).minutes);
                    if (t.go(a).score > most) {
                        most = t.score;
                        found = i;
                    }
                }
                return found;
            }
            case "plan": return planCall(a, b, c, d);
            case "feed": {
                if (!in(b, 1, 4)) return BEYOND;
                if (tape.length + b > 120) return FULL;
                byte[] four = {(byte) (a >> 24), (byte) (a >> 16), (byte) (a >> 8), (byte) a};
                byte[] longer = java.util.Arrays.copyOf(tape, tape.length + b);
                System.arraycopy(four, 4 - b, longer, tape.length, b);
                tape = longer;
                return tape.length;
            }
            case "wipe": {
                int had = tape.length;
                tape = new byte[0];
                return had;
            }
            case "book": {
                State t = st.twin();
                Text text = new Text(tape, t);
                tape = new byte[0];
                int items = text.read();
                if (text.fault >= 0) return -1 - text.fault;
                st = t;
                return items;
            }
            case "sheet": {
                if (!in(a, 0, 3) || b != 0 && b != 8 && b != 16 && b != 64) return BEYOND;
                if (c < 0) return SIZE;
                if (c > 40) return BEYOND;
                bits[a] = b;
                sheets[a] = b == 0 ? null : new long[c];
                return b == 0 ? 0 : c;
            }
            case "copy": {
                if (!in(a, 0, 3) || !in(c, 0, 3)) return BEYOND;
                if (sheets[a] == null || sheets[c] == null) return MISSING;
                if (bits[a] != bits[c]) return KIND;
                if (b < 0 || d < 0 || e < 0 || (long) b + e > sheets[a].length
                    || (long) d + e > sheets[c].length) return BEYOND;
                long[] was = sheets[a].clone();
                for (int i = 0; i < e; i++) sheets[c][d + i] = was[b + i];
                return e;
            }
            case "lays": {
                if (!in(a, 0, 3)) return BEYOND;
                if (sheets[a] == null) return MISSING;
                int came = 0;
                for (int i = 0; i < sheets[a].length; i++) {
                    if (phraseIs(i) && in(sheets[a][i], 0, 100)) {
                        st.phrases.get(i).held = (int) sheets[a][i];
                        came++;
                    }
                }
                return came;
            }
            case "read": {
                if (!in(a, 0, 3)) return BEYOND;
                if (sheets[a] == null) return MISSING;
                if (st.day > 59) return STATE;
                for (int i = 0; i < sheets[a].length; i++) {
                    if (st.twin().go(i).score != sheets[a][i]) return 1 + i;
                }
                return 0;
            }
            case "image": {
                kept = st.twin();
                return 1;
            }
            case "undo": {
                if (kept == null) return NONE;
                st = kept.twin();
                return st.phrases.size();
            }
            case "tear": {
                int was = kept == null ? 0 : 1;
                kept = null;
                return was;
            }
            case "count": {
                if (!in(a, 0, 5)) return BEYOND;
                return new int[] {st.phrases.size(), st.wants.size(), st.order.size(), tape.length, st.held(),
                    st.phrases.stream().mapToInt(p -> p.used).sum()}[a];
            }
            case "status": {
                if (!in(a, -1, 6)) return BEYOND;
                return a >= 0 ? told[a] : java.util.Arrays.stream(told).sum();
            }
            default: throw new IllegalStateException(name);
        }
    }

    private int setCall(int phrase, int what, int v) {
        if (!phraseIs(phrase)) return BEYOND;
        Phrase p = st.phrases.get(phrase);
        int was;
        if (what == 1 && in(v, 0, 9)) {
            was = p.topic;
            p.topic = v;
        } else if (what == 2 && in(v, 1, 60)) {
            was = p.minutes;
            p.minutes = v;
        } else if (what == 3 && in(v, 0, 10)) {
            was = p.sound;
            p.sound = v;
        } else if (what == 4 && in(v, 0, 100)) {
            was = p.held;
            p.held = v;
        } else {
            return BEYOND;
        }
        return was;
    }

    private int changeCall(int want, int what, int v) {
        if (!wantIs(want)) return BEYOND;
        Want w = st.wants.get(want);
        int was;
        if (what == 1 && in(v, 0, 99)) {
            was = w.worth;
            w.worth = v;
        } else if (what == 2 && in(v, 0, 99)) {
            was = w.day;
            w.day = v;
        } else if (what == 3 && in(v, 0, 1)) {
            was = w.hurry ? 1 : 0;
            w.hurry = v == 1;
        } else if (what == 4 && in(v, 0, 1)) {
            was = w.count ? 1 : 0;
            w.count = v == 1;
        } else {
            return BEYOND;
        }
        return was;
    }

    private int nextCall(int set) {
        if (!setIs(set)) return BEYOND;
        int found = NONE, most = 0;
        for (int i = 0; i < st.phrases.size(); i++) {
            int brings = st.value(set | 1 << i) - st.value(set);
            if (brings > most) {
                most = brings;
                found = i;
            }
        }
        return found;
    }

    private int spareCall(int set) {
        if (!setIs(set)) return BEYOND;
        int found = NONE, least = Integer.MAX_VALUE;
        for (int i = 0; i < st.phrases.size(); i++) {
            if ((set & 1 << i) != 0 && st.value(set) - st.value(set ^ 1 << i) < least) {
                least = st.value(set) - st.value(set ^ 1 << i);
                found = i;
            }
        }
        return found;
    }

    private int planCall(int set, int m, int n, int what) {
        if (!setIs(set) || !in(m, 0, 600) || !in(n, 1, 60) || !in(what, -1, 4)) return BEYOND;
        if (Integer.bitCount(set) > 5) return SIZE;
        if (st.day + n > 99) return STATE;
        List<Integer> members = new ArrayList<>();
        for (int i = 0; i < 12; i++) {
            if ((set & 1 << i) != 0) members.add(i);
        }
        List<List<Integer>> orders = new ArrayList<>();
        orders(members, new ArrayList<>(), orders);
        int most = -1;
        List<Integer> best = null;
        for (List<Integer> order : orders) {
            State t = st.twin();
            t.order = order;
            t.evening(m);
            if (t.go(n).score > most) {
                most = t.score;
                best = order;
            }
        }
        if (what == -1) return most;
        return what < best.size() ? best.get(what) : NONE;
    }

    private static void orders(List<Integer> rest, List<Integer> begun, List<List<Integer>> found) {
        if (rest.isEmpty()) found.add(new ArrayList<>(begun));
        for (Integer i : rest) {
            List<Integer> others = new ArrayList<>(rest);
            others.remove(i);
            begun.add(i);
            orders(others, begun, found);
            begun.remove(begun.size() - 1);
        }
    }

    /** The text of a book: all tokens are cut first, then read. */
    static final class Text {
        static final List<String> NAMES = List.of("phrase", "thing", "rope", "number", "mending", "urgent");
        final List<String> tokens = new ArrayList<>();
        final List<Integer> places = new ArrayList<>();
        final State st;
        int at = 0, fault = -1;

        Text(byte[] tape, State st) {
            this.st = st;
            String text = new String(tape, java.nio.charset.StandardCharsets.ISO_8859_1);
            Matcher m = Pattern.compile("[a-z]+|[0-9]+|[^ ]", Pattern.DOTALL).matcher(text);
            while (m.find()) {
                tokens.add(m.group());
                places.add(m.start());
            }
            tokens.add("");
            places.add(tape.length);
        }

        int read() {
            int items = 0;
            do {
                item();
                items++;
            } while (fault < 0 && perhaps(";"));
            if (fault < 0 && !tokens.get(at).isEmpty()) fails();
            return items;
        }

        private void fails() {
            if (fault < 0) fault = places.get(at);
        }

        private boolean perhaps(String token) {
            boolean there = fault < 0 && tokens.get(at).equals(token);
            if (there) at++;
            return there;
        }

        private void must(String token) {
            if (!perhaps(token)) fails();
        }

        private int number(int least, int most) {
            String t = tokens.get(at);
            if (fault < 0 && t.matches("0*[0-9]{1,3}") && in(Integer.parseInt(t.replaceFirst("^0+(?=.)", "")), least, most)) {
                at++;
                return Integer.parseInt(t.replaceFirst("^0+(?=.)", ""));
            }
            fails();
            return 0;
        }

        private void item() {
            String t = tokens.get(at);
            if (NAMES.contains(t) && st.phrases.size() < 12) {
                at++;
                int topic = number(0, 9);
                int minutes = perhaps("minutes") ? number(1, 60) : 5;
                int sound = perhaps("sound") ? number(0, 10) : 7;
                st.phrases.add(make(NAMES.indexOf(t), topic, minutes, sound));
            } else if (t.equals("want") && st.wants.size() < 12) {
                at++;
                int topic = number(0, 9);
                must("worth");
                int worth = number(0, 99);
                must("day");
                Want w = new Want(topic, worth, number(0, 99));
                w.hurry = perhaps("hurry");
                w.count = perhaps("count");
                st.wants.add(w);
            } else if (perhaps("line")) {
                st.line = number(1, 100);
            } else if (perhaps("order")) {
                List<Integer> order = new ArrayList<>();
                do {
                    int place = at;
                    int p = number(0, st.phrases.size() - 1);
                    if (order.contains(p) && fault < 0) {
                        at = place;
                        fails();
                    }
                    order.add(p);
                } while (fault < 0 && tokens.get(at).matches("[0-9]+"));
                st.order = order;
            } else {
                fails();
            }
        }
    }
}
