import java.util.ArrayDeque;
import java.util.ArrayList;
import java.util.Arrays;
import java.util.Collections;
import java.util.Deque;
import java.util.HashSet;
import java.util.List;
import java.util.Set;
import java.util.function.IntSupplier;

/** The document written a second time, slowly and by its definitions, with all of the Java library, to hold the class against. */
final class Plain {
    static final int BAD = -1000000001, NO = -1000000002, FULL = -1000000003, SPENT = -1000000004, NONE = -1000000005;
    static final int NOTHING = -1000000011, KIND = -1000000012, INDEX = -1000000013, SIZE = -1000000014;

    /** A block's lasting numbers, its power, layer and shape. */
    static final class B {
        int kind, a, b, power, layer, shape;

        B like() {
            B c = new B();
            c.kind = kind;
            c.a = a;
            c.b = b;
            c.power = power;
            c.layer = layer;
            c.shape = shape;
            return c;
        }

        List<int[]> shapes() {
            List<int[]> all = new ArrayList<>();
            boolean bent = kind == 2 || kind == 3;
            for (int s = 0; bent && s < (kind == 2 ? 6 : 5); s++) {
                int high = 0;
                while (high * (a + s) < a * b) {
                    high++;
                }
                all.add(new int[] {a + s, kind == 3 && (s == 3 || s == 4) ? high + 1 : high});
            }
            if (!bent) {
                all.add(new int[] {a, b});
            }
            if (kind == 1 || kind == 5) {
                all.add(new int[] {b, a});
            }
            if (kind == 5 && b > 1) {
                all.add(new int[] {a + 1, b - 1});
            }
            return all;
        }

        int w() {
            return shapes().get(shape)[0];
        }

        int h() {
            return shapes().get(shape)[1];
        }

        int room() {
            return kind == 2 ? a * b : kind == 3 ? a * b + 1 : kind == 5 ? w() * h() - 1 : w() * h();
        }

        int worth() {
            int hard = room() + power;
            return kind == 1 ? hard : kind == 4 ? hard + hard : kind == 2 || kind == 3 ? room() - shape : room();
        }

        boolean isA(int k) {
            return k == 0 || k == kind || k == 2 && kind == 3 || k == 1 && kind == 4;
        }
    }

    /** All that an image keeps. */
    static final class S {
        List<B> blocks = new ArrayList<>();
        List<Integer> one = new ArrayList<>(), other = new ArrayList<>();
        int[] rules = {1, 1, 1, 9, 60};
        List<int[]> nets = new ArrayList<>();
        int z = 1;
        List<W> wishes = new ArrayList<>();
        List<int[]> kept = new ArrayList<>();

        S like() {
            S c = new S();
            for (B b : blocks) {
                c.blocks.add(b.like());
            }
            c.one.addAll(one);
            c.other.addAll(other);
            c.rules = rules.clone();
            c.nets.addAll(nets);
            c.z = z;
            c.wishes.addAll(wishes);
            c.kept.addAll(kept);
            return c;
        }
    }

    /** A wish as it was written; it is read anew whenever it is asked. */
    static final class W {
        int block, operands;
        String e;
    }

    S now = new S();
    S image;
    final Deque<S> undone = new ArrayDeque<>();
    final List<Integer> tape = new ArrayList<>();
    final List<Integer> waiting = new ArrayList<>();
    final Object[] sheets = new Object[4];
    final Object[] slots = new Object[5];
    private int widened = -1, extra;

    private int n() {
        return now.blocks.size();
    }

    private boolean in(int v, int least, int below) {
        return least <= v && v < below;
    }

    private int wide(int i) {
        return now.blocks.get(i).w() + (i == widened ? extra : 0);
    }

    private boolean left(int i, int j) {
        return now.blocks.get(i).layer == now.blocks.get(j).layer
            && now.one.indexOf(i) < now.one.indexOf(j) && now.other.indexOf(i) < now.other.indexOf(j);
    }

    private boolean below(int i, int j) {
        return now.blocks.get(i).layer == now.blocks.get(j).layer
            && now.one.indexOf(i) > now.one.indexOf(j) && now.other.indexOf(i) < now.other.indexOf(j);
    }

    private int x(int i) {
        int x = 0;
        for (int k = 0; k < n(); k++) {
            if (left(k, i)) {
                x = Math.max(x, x(k) + wide(k));
            }
        }
        return x;
    }

    private int y(int i) {
        int y = 0;
        for (int k = 0; k < n(); k++) {
            if (below(k, i)) {
                y = Math.max(y, y(k) + now.blocks.get(k).h());
            }
        }
        return y;
    }

    private int allWide() {
        int all = 0;
        for (int i = 0; i < n(); i++) {
            all = Math.max(all, x(i) + wide(i));
        }
        return all;
    }

    private int allHigh() {
        int all = 0;
        for (int i = 0; i < n(); i++) {
            all = Math.max(all, y(i) + now.blocks.get(i).h());
        }
        return all;
    }

    private int grows(int i) {
        int all = allWide();
        widened = i;
        extra = 0;
        while (allWide() == all) {
            extra++;
        }
        widened = -1;
        return extra - 1;
    }

    private Set<List<Integer>> cells(int i) {
        Set<List<Integer>> all = new HashSet<>();
        int x = x(i), y = y(i), w = wide(i), h = now.blocks.get(i).h();
        for (int u = x; u < x + w; u++) {
            for (int v = y; v < y + h; v++) {
                all.add(List.of(u, v));
            }
        }
        return all;
    }

    /** The pieces of its sides, each of length 1: where it begins and whether it goes up. */
    private Set<List<Integer>> sides(int i) {
        Set<List<Integer>> all = new HashSet<>();
        int x = x(i), y = y(i), w = wide(i), h = now.blocks.get(i).h();
        for (int u = x; u < x + w; u++) {
            all.add(List.of(u, y, 0));
            all.add(List.of(u, y + h, 0));
        }
        for (int v = y; v < y + h; v++) {
            all.add(List.of(x, v, 1));
            all.add(List.of(x + w, v, 1));
        }
        return all;
    }

    private boolean touches(int i, int j) {
        return now.blocks.get(i).layer == now.blocks.get(j).layer && !Collections.disjoint(sides(i), sides(j));
    }

    private int heat(int i) {
        int heat = 4 * now.blocks.get(i).power;
        for (int j = 0; j < n(); j++) {
            if (j != i && touches(i, j)) {
                heat += now.blocks.get(j).power;
            }
            if (now.blocks.get(i).layer != now.blocks.get(j).layer && !Collections.disjoint(cells(i), cells(j))) {
                heat += 2 * now.blocks.get(j).power;
            }
        }
        return heat;
    }

    private int wireOf(int[] net) {
        List<Integer> xs = new ArrayList<>(), ys = new ArrayList<>();
        Set<Integer> layers = new HashSet<>();
        for (int i = 0; i < n(); i++) {
            if ((net[0] & 1 << i) != 0) {
                xs.add(2 * x(i) + wide(i));
                ys.add(2 * y(i) + now.blocks.get(i).h());
                layers.add(now.blocks.get(i).layer);
            }
        }
        if (xs.size() < 2) {
            return 0;
        }
        int long1 = Collections.max(xs) - Collections.min(xs) + Collections.max(ys) - Collections.min(ys);
        return net[1] * (long1 + (layers.size() == 2 ? 2 * now.rules[0] : 0));
    }

    private int guessOf(int[] net) {
        int rooms = 0;
        for (int i = 0; i < n(); i++) {
            rooms += (net[0] & 1 << i) != 0 ? now.blocks.get(i).room() : 0;
        }
        return net[1] * 2 * (int) Math.sqrt(rooms);
    }

    private int wires() {
        int sum = 0;
        for (int[] net : now.nets) {
            sum += wireOf(net);
        }
        return sum;
    }

    private int waste() {
        int area = allWide() * allHigh(), used = 0, above = 0;
        for (B b : now.blocks) {
            used += b.w() * b.h();
            above += b.layer;
        }
        return area + (above > 0 ? area : 0) - used;
    }

    private int price() {
        int w = allWide(), h = allHigh();
        int out = (w > now.rules[4] ? w - now.rules[4] : 0) + (h > now.rules[4] ? h - now.rules[4] : 0);
        return w * h * now.rules[1] + wires() * now.rules[2] + out * now.rules[3];
    }

    int block(int kind, int a, int b) {
        if (!in(kind, 0, 6) || !in(a, 1, 31) || !in(b, 1, 31)) {
            return BAD;
        }
        if (n() == 8) {
            return FULL;
        }
        B c = new B();
        c.kind = kind;
        c.a = a;
        c.b = b;
        now.one.add(n());
        now.other.add(n());
        now.blocks.add(c);
        undone.clear();
        return n() - 1;
    }

    int told(int block, int what) {
        if (!in(block, 0, n()) || !in(what, 0, 15)) {
            return BAD;
        }
        B b = now.blocks.get(block);
        IntSupplier[] all = {() -> b.kind, () -> b.a, () -> b.b, () -> b.power, () -> b.layer, () -> b.shape, b::w, b::h, b::room, b::worth,
            () -> x(block), () -> y(block), () -> b.shapes().size(), () -> heat(block), () -> grows(block)};
        return all[what].getAsInt();
    }

    int as(int block, int kind) {
        return !in(block, 0, n()) || !in(kind, 0, 6) ? BAD : now.blocks.get(block).isA(kind) ? now.blocks.get(block).w() : KIND;
    }

    int power(int block, int v) {
        if (!in(block, 0, n()) || !in(v, 0, 100)) {
            return BAD;
        }
        int was = now.blocks.get(block).power;
        now.blocks.get(block).power = v;
        return was;
    }

    int rule(int what, int v) {
        if (!in(what, 0, 5) || !in(v, what == 4 ? 1 : 0, what == 4 ? 241 : what == 3 ? 100 : 10)) {
            return BAD;
        }
        int was = now.rules[what];
        now.rules[what] = v;
        return was;
    }

    int net(int set, int weight) {
        if (!in(set, 0, 256) || (set & set - 1) == 0 || !in(weight, 1, 10)) {
            return BAD;
        }
        if (now.nets.size() == 10) {
            return FULL;
        }
        now.nets.add(new int[] {set, weight});
        return now.nets.size() - 1;
    }

    int wire(int net, int what) {
        if (!in(net, 0, now.nets.size()) || !in(what, 0, 3)) {
            return BAD;
        }
        int wire = wireOf(now.nets.get(net)), guess = guessOf(now.nets.get(net));
        return what == 0 ? wire : what == 1 ? guess : wire - guess;
    }

    int at(int row, int place) {
        return !in(row, 0, 2) || !in(place, 0, n()) ? BAD : (row == 0 ? now.one : now.other).get(place);
    }

    int whole(int what) {
        return !in(what, 0, 5) ? BAD : what == 0 ? allWide() : what == 1 ? allHigh() : what == 2 ? waste() : what == 3 ? wires() : price();
    }

    int stands(int i, int j) {
        if (!in(i, 0, n()) || !in(j, 0, n()) || i == j) {
            return BAD;
        }
        return left(i, j) ? 0 : below(i, j) ? 1 : left(j, i) ? 2 : below(j, i) ? 3 : NONE;
    }

    private void done(int move, int p, int q) {
        if (move == 0) {
            Collections.swap(now.one, p, q);
        } else if (move == 1) {
            Collections.swap(now.other, p, q);
        } else if (move == 2) {
            Collections.swap(now.one, now.one.indexOf(p), now.one.indexOf(q));
            Collections.swap(now.other, now.other.indexOf(p), now.other.indexOf(q));
        } else if (move == 3) {
            B b = now.blocks.get(p);
            b.shape = (b.shape + 1) % b.shapes().size();
        } else {
            now.blocks.get(p).layer ^= 1;
        }
    }

    int move(int move, int p, int q) {
        if (!in(move, 0, 5) || !in(p, 0, n()) || move < 3 && !in(q, 0, n())) {
            return BAD;
        }
        if (move == 4 && now.blocks.get(p).kind == 4) {
            return NO;
        }
        undone.push(now.like());
        if (undone.size() > 20) {
            undone.removeLast();
        }
        done(move, p, q);
        return price();
    }

    int undo() {
        if (undone.isEmpty()) {
            return NO;
        }
        S was = undone.pop();
        now.one = was.one;
        now.other = was.other;
        for (int i = 0; i < n(); i++) {
            now.blocks.get(i).shape = was.blocks.get(i).shape;
            now.blocks.get(i).layer = was.blocks.get(i).layer;
        }
        return undone.size();
    }

    int seed(int v) {
        int was = now.z;
        now.z = v;
        return was;
    }

    private int step(int heat) {
        int z = now.z * 1103515245 + 12345;
        now.z = z;
        int v = z >>> 8;
        int move = v % 5, p = v / 5 % n(), q = v / 50 % n();
        int ahead = price();
        if (move == 4 && now.blocks.get(p).kind == 4) {
            return ahead;
        }
        S was = now.like();
        done(move, p, q);
        int then = price();
        if (then > ahead && then - ahead >= heat) {
            now = was;
            return ahead;
        }
        return then;
    }

    int walk(int n, int heat) {
        if (!in(n, 1, 201) || !in(heat, 0, 10000)) {
            return BAD;
        }
        if (n() == 0) {
            return NO;
        }
        undone.clear();
        for (int i = 0; i < n; i++) {
            step(heat);
        }
        return price();
    }

    private static void orders(List<Integer> taken, int n, List<List<Integer>> all) {
        if (taken.size() == n) {
            all.add(new ArrayList<>(taken));
        }
        for (int i = 0; i < n; i++) {
            if (!taken.contains(i)) {
                taken.add(i);
                orders(taken, n, all);
                taken.remove(taken.size() - 1);
            }
        }
    }

    private int searched(int row, int place) {
        S was = now;
        now = was.like();
        List<List<Integer>> all = new ArrayList<>();
        orders(new ArrayList<>(), n(), all);
        int least = Integer.MAX_VALUE, answer = 0;
        for (List<Integer> one : all) {
            for (List<Integer> other : all) {
                now.one = one;
                now.other = other;
                int price = price();
                if (price < least) {
                    least = price;
                    answer = row < 0 ? price : (row == 0 ? one : other).get(place);
                }
            }
        }
        now = was;
        return answer;
    }

    int bound(int what) {
        if (!in(what, 0, 4)) {
            return BAD;
        }
        if (what == 3) {
            return n() > 4 ? SPENT : searched(-1, 0);
        }
        int[] rooms = new int[2];
        int[] most = new int[2];
        for (B b : now.blocks) {
            rooms[b.layer] += b.room();
            for (int k = 0; k < 2; k++) {
                int least = 99;
                for (int[] shape : b.shapes()) {
                    least = Math.min(least, shape[k]);
                }
                most[k] = Math.max(most[k], least);
            }
        }
        return what == 0 ? Math.max(rooms[0], rooms[1]) : most[what - 1];
    }

    int best(int row, int place) {
        return !in(row, 0, 2) ? BAD : n() > 4 ? SPENT : !in(place, 0, n()) ? BAD : searched(row, place);
    }

    int touch(int i, int j) {
        return !in(i, 0, n()) || !in(j, 0, n()) || i == j ? BAD : touches(i, j) ? 1 : 0;
    }

    int hottest() {
        int best = NONE;
        for (int i = n() - 1; i >= 0; i--) {
            best = best == NONE || heat(i) >= heat(best) ? i : best;
        }
        return best;
    }

    int feed(int a, int b, int c) {
        if (tape.size() > 84) {
            return FULL;
        }
        for (int v : new int[] {a, b, c}) {
            for (byte part : java.nio.ByteBuffer.allocate(4).putInt(v).array()) {
                tape.add(part & 255);
            }
        }
        return tape.size();
    }

    int trim(int n) {
        if (!in(n, 0, tape.size() + 1)) {
            return BAD;
        }
        tape.subList(n, tape.size()).clear();
        return n;
    }

    /** Reads a text and works it out on the way; a fault is thrown with its place. */
    private final class Text {
        final String t;
        final List<int[]> parts = new ArrayList<>();
        int at, block, operands;

        Text(String t) {
            this.t = t;
            java.util.regex.Matcher m = java.util.regex.Pattern.compile("[a-z]+|[0-9]+|[^ ]", java.util.regex.Pattern.DOTALL).matcher(t);
            while (m.find()) {
                parts.add(new int[] {m.start(), m.end()});
            }
        }

        String part() {
            if (at >= parts.size()) {
                return "";
            }
            int[] p = parts.get(at);
            boolean word = Character.isLetterOrDigit(t.charAt(p[0])) && t.charAt(p[0]) < 128;
            boolean close = at > 0 && parts.get(at - 1)[1] == p[0];
            if (word && close && t.substring(parts.get(at - 1)[0], p[0]).matches("[a-z]+|[0-9]+")) {
                return "?";
            }
            return t.substring(p[0], p[1]);
        }

        RuntimeException fault() {
            return new IllegalStateException("" + (at >= parts.size() ? t.length() : parts.get(at)[0]));
        }

        int all() {
            if (part().equals("all")) {
                block = 8;
            } else if (part().equals("block")) {
                at++;
                if (!part().matches("[0-7]")) {
                    throw fault();
                }
                block = Integer.parseInt(part());
            } else {
                throw fault();
            }
            at++;
            int v = e(0, 0, 0);
            if (at < parts.size()) {
                throw fault();
            }
            return v;
        }

        int e(int level, int opens, int nots) {
            String[] signs = {"|", "&", "<=>", "+-", "*/"};
            if (level == 5) {
                return piece(opens, nots);
            }
            int v = e(level + 1, opens, nots);
            while (!part().isEmpty() && signs[level].contains(part())) {
                char sign = part().charAt(0);
                at++;
                int w = e(level + 1, opens, nots);
                v = joined(v, sign, w);
                if (level == 2) {
                    break;
                }
            }
            return v;
        }

        int joined(int v, char sign, int w) {
            boolean both = v != 0 && w != 0, one = v != 0 || w != 0;
            return sign == '|' ? one ? 1 : 0 : sign == '&' ? both ? 1 : 0 : sign == '<' ? v < w ? 1 : 0 : sign == '=' ? v == w ? 1 : 0
                : sign == '>' ? v > w ? 1 : 0 : sign == '+' ? v + w : sign == '-' ? v - w : sign == '*' ? v * w : w == 0 ? 0 : v / w;
        }

        int piece(int opens, int nots) {
            String p = part();
            if (p.matches("[0-9]{1,4}")) {
                operands++;
                at++;
                return Integer.parseInt(p);
            }
            if (p.matches(block == 8 ? "[whlu]" : "[xywhptg]")) {
                operands++;
                at++;
                return name(p.charAt(0));
            }
            if (p.equals("!") && nots < 8) {
                at++;
                return piece(opens, nots + 1) == 0 ? 1 : 0;
            }
            if (!p.equals("(") || opens >= 8) {
                throw fault();
            }
            at++;
            int v = e(0, opens + 1, nots);
            if (!part().equals(")")) {
                throw fault();
            }
            at++;
            return v;
        }

        int name(char c) {
            if (block == 8) {
                return c == 'w' ? allWide() : c == 'h' ? allHigh() : c == 'l' ? wires() : waste();
            }
            return block >= n() ? 0 : told(block, new int[] {10, 11, 6, 7, 3, 13, 14}["xywhptg".indexOf(c)]);
        }
    }

    int wish() {
        StringBuilder t = new StringBuilder();
        for (int v : tape) {
            t.append((char) v);
        }
        tape.clear();
        Text text = new Text(t.toString());
        try {
            text.all();
        } catch (IllegalStateException e) {
            return -100 - Integer.parseInt(e.getMessage());
        }
        if (now.wishes.size() == 10) {
            return FULL;
        }
        W w = new W();
        w.block = text.block;
        w.operands = text.operands;
        w.e = t.toString();
        now.wishes.add(w);
        return now.wishes.size() - 1;
    }

    private int value(W w) {
        return w.block < 8 && w.block >= n() ? 0 : new Text(w.e).all();
    }

    int of(int wish, int what) {
        if (!in(wish, 0, now.wishes.size()) || !in(what, 0, 4)) {
            return BAD;
        }
        W w = now.wishes.get(wish);
        return what == 0 ? w.block : what == 1 ? w.operands : what == 2 ? value(w) == 0 ? 0 : 1 : value(w);
    }

    int missed() {
        for (int i = 0; i < now.wishes.size(); i++) {
            if (value(now.wishes.get(i)) == 0) {
                return i;
            }
        }
        return NONE;
    }

    int stow() {
        if (now.kept.size() == 8) {
            return FULL;
        }
        now.kept.add(new int[] {allWide() * allHigh(), wires(), n() == 0 ? 0 : heat(hottest())});
        return now.kept.size() - 1;
    }

    private boolean beaten(int[] k) {
        for (int[] o : now.kept) {
            if (o[0] <= k[0] && o[1] <= k[1] && o[2] <= k[2] && !Arrays.equals(o, k)) {
                return true;
            }
        }
        return false;
    }

    int stowed(int laying, int what) {
        if (!in(laying, 0, now.kept.size()) || !in(what, 0, 4)) {
            return BAD;
        }
        return what < 3 ? now.kept.get(laying)[what] : beaten(now.kept.get(laying)) ? 1 : 0;
    }

    int front() {
        int bits = 0;
        for (int i = 0; i < now.kept.size(); i++) {
            bits += beaten(now.kept.get(i)) ? 0 : 1 << i;
        }
        return bits;
    }

    int sheet(int sheet, int sort, int n) {
        if (!in(sheet, 0, 4) || !in(sort, -1, 3) || sort >= 0 && n > 24) {
            return BAD;
        }
        if (sort >= 0 && n < 0) {
            return SIZE;
        }
        sheets[sheet] = sort == -1 ? null : sort == 0 ? new short[n] : sort == 1 ? new int[n] : (Object) new long[n];
        return sort == -1 ? 0 : n;
    }

    private static int length(Object row) {
        return java.lang.reflect.Array.getLength(row);
    }

    private static int get(Object row, int place) {
        return (int) java.lang.reflect.Array.getLong(row, place);
    }

    int mark(int sheet, int place, int v) {
        if (!in(sheet, 0, 4)) {
            return BAD;
        }
        Object row = sheets[sheet];
        if (row == null) {
            return NOTHING;
        }
        if (!in(place, 0, length(row))) {
            return INDEX;
        }
        int was = get(row, place);
        if (row instanceof short[] s) {
            s[place] = (short) v;
        } else if (row instanceof int[] i) {
            i[place] = v;
        } else if (row instanceof long[] l) {
            l[place] = v;
        }
        return was;
    }

    int powers(int sheet, int place) {
        if (!in(sheet, 0, 4)) {
            return BAD;
        }
        Object row = sheets[sheet];
        if (row == null) {
            return NOTHING;
        }
        if (place < 0 || (long) place + n() > length(row)) {
            return INDEX;
        }
        int changed = 0;
        for (int i = 0; i < n(); i++) {
            if (!in(get(row, place + i), 0, 100)) {
                return KIND;
            }
        }
        for (int i = 0; i < n(); i++) {
            changed += power(i, get(row, place + i)) == get(row, place + i) ? 0 : 1;
        }
        return changed;
    }

    int copy(int from, int place, int to, int at, int many) {
        if (!in(from, 0, 4) || !in(to, 0, 4)) {
            return BAD;
        }
        try {
            System.arraycopy(sheets[from], place, sheets[to], at, many);
            return many;
        } catch (NullPointerException e) {
            return NOTHING;
        } catch (ArrayStoreException e) {
            return KIND;
        } catch (IndexOutOfBoundsException e) {
            return INDEX;
        }
    }

    private static int thing(Object held) {
        return held == null ? 0 : held instanceof B ? 1 : held instanceof Integer ? 3 : 2;
    }

    int lay(int slot, int thing, int k) {
        if (!in(slot, 0, 5) || !in(thing, 0, 4) || thing == 1 && !in(k, 0, n()) || thing == 2 && !in(k, 0, 4)) {
            return BAD;
        }
        if (thing == 2 && sheets[k] == null) {
            return NOTHING;
        }
        int held = thing(slots[slot]);
        Object row = thing == 2 ? sheets[k] : null;
        Object own = row instanceof short[] s ? s.clone() : row instanceof int[] i ? i.clone() : row instanceof long[] l ? l.clone() : null;
        slots[slot] = thing == 1 ? now.blocks.get(k).like() : thing == 2 ? own : thing == 3 ? (Object) k : null;
        return held;
    }

    int ask(int slot, int kind) {
        if (!in(slot, 0, 5) || !in(kind, 0, 6)) {
            return BAD;
        }
        Object held = slots[slot];
        return held == null ? NOTHING : held instanceof B b && b.isA(kind) ? b.worth() : KIND;
    }

    int item(int slot, int place) {
        if (!in(slot, 0, 5)) {
            return BAD;
        }
        Object held = slots[slot];
        return held == null ? NOTHING : thing(held) != 2 ? KIND : !in(place, 0, length(held)) ? INDEX : get(held, place);
    }

    int rest(int slot, int n) {
        if (!in(slot, 0, 5)) {
            return BAD;
        }
        Object held = slots[slot];
        return held == null ? NOTHING : held instanceof Integer v ? n == 0 ? NO : v % n : KIND;
    }

    int tell(int v) {
        if (waiting.size() == 60) {
            return FULL;
        }
        waiting.add(v);
        return waiting.size();
    }

    int check(int n) {
        List<Integer> told = new ArrayList<>(waiting);
        waiting.clear();
        if (!in(n, 1, 61)) {
            return BAD;
        }
        if (image == null || image.blocks.isEmpty()) {
            return NO;
        }
        S was = now;
        now = image.like();
        List<Integer> steps = new ArrayList<>();
        for (int i = 0; i < n; i++) {
            steps.add(step(0));
        }
        now = was;
        int alike = 0;
        while (alike < told.size() && alike < n && told.get(alike).equals(steps.get(alike))) {
            alike++;
        }
        return alike == n && told.size() == n ? 0 : 1 + alike;
    }

    int keep() {
        image = now.like();
        return n();
    }

    int back() {
        if (image == null) {
            return NO;
        }
        now = image.like();
        undone.clear();
        return n();
    }

    int count(int what) {
        int met = 0, above = 0;
        for (W w : now.wishes) {
            met += value(w) != 0 ? 1 : 0;
        }
        for (B b : now.blocks) {
            above += b.layer;
        }
        return !in(what, 0, 10) ? BAD : new int[] {n(), now.nets.size(), now.wishes.size(), met, now.kept.size(), undone.size(), above,
            waiting.size(), tape.size(), now.z}[what];
    }
}
