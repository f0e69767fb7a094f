import java.util.ArrayList;
import java.util.Arrays;
import java.util.List;

/** The document told once more in the plainest way, without regard for speed, to compare TwoAgree with. */
final class Plain {
    static final int BAD = -1, NOT = -2, FULL = -3, STATE = -5, VOID = -2000000000;

    static final class Citizen {
        int kin, eye = 9, price = 10, bought = -1;
    }

    static final class Image {
        int[] kin, bought;
        int day, today;
        List<Integer> clerk;
        int[] led;
    }

    static final class Row {
        int sort;
        long[] v;
    }

    private final List<Citizen> people = new ArrayList<>();
    private int falls, wide, day;
    private String lawText = null;
    private final StringBuilder tape = new StringBuilder();
    private final Object[] shelves = new Object[6];
    private List<Integer> clerk = new ArrayList<>();
    private int today;
    private int[] led = new int[5];
    private Image image;
    private final List<int[]> done = new ArrayList<>(), undone = new ArrayList<>();
    private final List<Word> words = new ArrayList<>();
    private final List<Integer> trace = new ArrayList<>();

    private boolean isCitizen(long c) {
        return c >= 0 && c < people.size();
    }

    private static boolean isWeather(long w) {
        return w >= 0 && w <= 5;
    }

    // ---- citizens

    int citizen(int kin) {
        if (kin < 0 || kin > 7) return BAD;
        if (people.size() == 10) return FULL;
        Citizen c = new Citizen();
        c.kin = kin;
        people.add(c);
        return people.size() - 1;
    }

    int citizens(int shelf, int i, int n) {
        if (shelf < 0 || shelf > 5 || n < 1 || n > 10) return BAD;
        if (shelves[shelf] == null) return 0;
        if (!isBytes(shelves[shelf])) return -12;
        long[] v = ((Row) shelves[shelf]).v;
        int came = 0;
        for (long at = i; came < n; at += 3) {
            if (at < 0 || at + 2 >= v.length || people.size() == 10) break;
            long kin = v[(int) at], eye = v[(int) at + 1], price = v[(int) at + 2];
            if (kin < 0 || kin > 7 || eye < 0 || eye > 12 || price < 0 || price > 99) break;
            Citizen c = new Citizen();
            c.kin = (int) kin;
            c.eye = (int) eye;
            c.price = (int) price;
            people.add(c);
            came++;
        }
        return came;
    }

    int of(int number, int what) {
        if (what < 0 || what > 6) return VOID;
        if (what <= 3 ? !isCitizen(number) : number != 0) return VOID;
        if (what == 0) return people.get(number).kin;
        if (what == 1) return people.get(number).eye;
        if (what == 2) return people.get(number).price;
        if (what == 3) return people.get(number).bought;
        return what == 4 ? falls : what == 5 ? wide : day;
    }

    private void set(int number, int what, int v) {
        if (what == 0) people.get(number).kin = v;
        if (what == 1) people.get(number).eye = v;
        if (what == 2) people.get(number).price = v;
        if (what == 3) people.get(number).bought = v;
        if (what == 4) falls = v;
        if (what == 5) wide = v;
        if (what == 6) day = v;
    }

    int mend(int number, int what, int v) {
        int was = of(number, what);
        if (was == VOID) return VOID;
        int most = what == 0 ? 7 : what == 1 ? 12 : what == 2 ? 99 : what == 3 ? 5 : what == 4 ? 5 : what == 5 ? 2 : 99;
        if (v > most || v < (what == 3 ? -1 : 0)) return VOID;
        if (v != was) {
            set(number, what, v);
            done.add(new int[] {number, what, was, v});
            if (done.size() > 40) done.remove(0);
            undone.clear();
        }
        return was;
    }

    int feed(int letter) {
        if (letter < 0 || letter > 255) return BAD;
        if (tape.length() == 120) return FULL;
        tape.append((char) letter);
        return tape.length();
    }

    int law() {
        String text = tape.toString();
        tape.setLength(0);
        int fault = fault(text);
        if (fault >= 0) return -100 - fault;
        lawText = text;
        return 1;
    }

    /** By states and what is open, letter by letter, unlike the class's way down the ranks. */
    static int fault(String text) {
        List<Character> open = new ArrayList<>();
        List<Boolean> compared = new ArrayList<>();
        compared.add(false);
        boolean wanting = true, asked = false;
        int digits = 0;
        for (int i = 0; i < text.length(); i++) {
            char c = text.charAt(i);
            int top = compared.size() - 1;
            if (wanting) {
                if (c == '!' || c == '-' || c == '(') {
                    if (open.size() == 6) return i;
                    open.add(c);
                    if (c == '(') compared.add(false);
                    continue;
                }
                if (c >= '0' && c <= '9') digits = 1;
                else if ("tekpdc".indexOf(c) >= 0) digits = 0;
                else return i;
                wanting = false;
                closeSigns(open);
                continue;
            }
            if (c >= '0' && c <= '9') {
                if (digits == 0 || digits == 4) return i;
                digits++;
                continue;
            }
            digits = 0;
            if (c == ')') {
                if (open.isEmpty()) return i;
                open.remove(open.size() - 1);
                compared.remove(top);
                closeSigns(open);
            } else if (c == '?' || c == ';') {
                if (!open.isEmpty() || c == '?' && asked) return i;
                asked = c == '?';
                compared.set(top, false);
                wanting = true;
            } else if (c == '|' || c == '&') {
                compared.set(top, false);
                wanting = true;
            } else if (c == '<' || c == '=' || c == '>') {
                if (compared.get(top)) return i;
                compared.set(top, true);
                wanting = true;
            } else if (c == '+' || c == '-' || c == '*' || c == '/' || c == '%') {
                wanting = true;
            } else return i;
        }
        return wanting || !open.isEmpty() ? text.length() : -1;
    }

    private static void closeSigns(List<Character> open) {
        while (!open.isEmpty() && open.get(open.size() - 1) != '(') open.remove(open.size() - 1);
    }

    /** Works a good text out straight from its letters. */
    private static final class Worker {
        final String s;
        final int[] names;
        int at = 0;

        Worker(String s, int[] names) {
            this.s = s;
            this.names = names;
        }

        boolean eat(char c) {
            if (at < s.length() && s.charAt(at) == c) {
                at++;
                return true;
            }
            return false;
        }

        int e() {
            int v = a();
            while (eat('|')) {
                int w = a();
                v = v != 0 | w != 0 ? 1 : 0;
            }
            return v;
        }

        int a() {
            int v = b();
            while (eat('&')) {
                int w = b();
                v = v != 0 & w != 0 ? 1 : 0;
            }
            return v;
        }

        int b() {
            int v = sum();
            if (eat('<')) return v < sum() ? 1 : 0;
            if (eat('=')) return v == sum() ? 1 : 0;
            if (eat('>')) return v > sum() ? 1 : 0;
            return v;
        }

        int sum() {
            int v = p();
            while (true) {
                if (eat('+')) v += p();
                else if (eat('-')) v -= p();
                else return v;
            }
        }

        int p() {
            int v = o();
            while (true) {
                if (eat('*')) v *= o();
                else if (eat('/')) {
                    int w = o();
                    v = w == 0 ? 0 : v / w;
                } else if (eat('%')) {
                    int w = o();
                    v = w == 0 ? 0 : v % w;
                } else return v;
            }
        }

        int o() {
            if (eat('!')) return o() == 0 ? 1 : 0;
            if (eat('-')) return -o();
            if (eat('(')) {
                int v = e();
                eat(')');
                return v;
            }
            int name = "tekpdc".indexOf(s.charAt(at));
            if (name >= 0) {
                at++;
                return names[name];
            }
            int v = 0;
            while (at < s.length() && Character.isDigit(s.charAt(at))) v = v * 10 + s.charAt(at++) - '0';
            return v;
        }
    }

    private static int worked(String text, int[] names) {
        for (String line : text.split(";")) {
            Worker w = new Worker(line, names);
            int v = w.e();
            if (!w.eat('?')) return v;
            if (v != 0) return w.e();
        }
        return 0;
    }

    private int speech(int c, int t, int d) {
        Citizen who = people.get(c);
        if (who.bought != -1) return who.bought;
        if (lawText == null) return who.eye >= 6 ? t : Math.min(5, t + 1);
        int v = worked(lawText, new int[] {t, who.eye, who.kin, who.price, d, c});
        return v < 0 ? 0 : v > 5 ? 5 : v;
    }

    int says(int c) {
        return isCitizen(c) ? speech(c, falls, day) : BAD;
    }

    // ---- agreeing

    /** What each says now. */
    private int[] now() {
        return on(falls, day);
    }

    private int[] on(int t, int d) {
        int[] said = new int[people.size()];
        for (int c = 0; c < said.length; c++) said[c] = speech(c, t, d);
        return said;
    }

    private int[] kins() {
        int[] kins = new int[people.size()];
        for (int c = 0; c < kins.length; c++) kins[c] = people.get(c).kin;
        return kins;
    }

    private boolean agree(int[] said, int[] kin, int a, int b) {
        return kin[a] != kin[b] && Math.abs(said[a] - said[b]) <= wide;
    }

    /** How many pairs agree on each weather. */
    private int[] agreeingOn(int[] said, int[] kin, int absent) {
        int[] on = new int[6];
        for (int a = 0; a < said.length; a++) {
            for (int b = a + 1; b < said.length; b++) {
                if (a != absent && b != absent && agree(said, kin, a, b)) on[Math.min(said[a], said[b])]++;
            }
        }
        return on;
    }

    private int happened(int[] said, int[] kin, int absent) {
        int[] on = agreeingOn(said, kin, absent);
        int bits = 0;
        for (int w = 0; w < 6; w++) if (on[w] > 0) bits += 1 << w;
        return bits;
    }

    int all(int what) {
        if (what < 0 || what > 1) return BAD;
        if (what == 0) return happened(now(), kins(), -1);
        return Arrays.stream(agreeingOn(now(), kins(), -1)).sum();
    }

    int saying(int w) {
        if (!isWeather(w)) return BAD;
        return (int) Arrays.stream(now()).filter(v -> v == w).count();
    }

    private static boolean isBytes(Object o) {
        return o instanceof Row && ((Row) o).sort == 0;
    }

    private int refused(int shelf) {
        return shelves[shelf] == null ? -11 : isBytes(shelves[shelf]) ? 0 : -12;
    }

    private List<Integer> claimsOf(int shelf) {
        List<Integer> all = new ArrayList<>();
        for (long v : ((Row) shelves[shelf]).v) {
            if (!isCitizen(v) || all.size() == 40) break;
            all.add((int) v);
        }
        return all;
    }

    int claims(int shelf, int n, int what) {
        if (shelf < 0 || shelf > 5 || n < 0 || n > 40 || what < 0 || what > 2) return BAD;
        if (refused(shelf) != 0) return refused(shelf);
        List<Integer> list = claimsOf(shelf);
        if (list.size() > n) list = list.subList(0, n);
        if (what == 2) return (int) list.stream().distinct().count();
        if (what == 0) return byClaims(list, list.size());
        for (int i = 0; i < list.size(); i++) if (byClaims(list, i + 1) != 0) return i;
        return NOT;
    }

    private int byClaims(List<Integer> list, int n) {
        int[] said = now(), kin = kins();
        int bits = 0;
        for (int i = 0; i < n; i++) {
            for (int j = 0; j < i; j++) {
                int a = list.get(i), b = list.get(j);
                if (a != b && agree(said, kin, a, b)) bits |= 1 << Math.min(said[a], said[b]);
            }
        }
        return bits;
    }

    int happens(int shelf, int w) {
        if (shelf < 0 || shelf > 5 || !isWeather(w)) return BAD;
        if (refused(shelf) != 0) return refused(shelf);
        List<Integer> list = claimsOf(shelf);
        for (int i = 1; i <= list.size(); i++) if ((byClaims(list, i) >> w & 1) == 1) return i;
        return NOT;
    }

    private int cost(int c, int w) {
        return says(c) == w ? 0 : people.get(c).price;
    }

    int pay(int w, int what) {
        if (!isWeather(w) || what < 0 || what > 1) return BAD;
        int least = NOT, who = NOT;
        for (int a = 0; a < people.size(); a++) {
            for (int b = a + 1; b < people.size(); b++) {
                if (people.get(a).kin == people.get(b).kin) continue;
                int c = cost(a, w) + cost(b, w);
                if (least == NOT || c < least) {
                    least = c;
                    who = 10 * a + b;
                }
            }
        }
        return what == 0 ? least : who;
    }

    int payBoth(int ww, int what) {
        if (ww < 0 || ww > 55 || ww % 10 > 5 || ww / 10 == ww % 10 || what < 0 || what > 2) return BAD;
        int n = people.size();
        int[] best = null;
        for (int a = 0; a < n; a++) for (int b = a + 1; b < n; b++) {
            if (people.get(a).kin == people.get(b).kin) continue;
            for (int c = 0; c < n; c++) for (int d = c + 1; d < n; d++) {
                if (people.get(c).kin == people.get(d).kin || a == c || a == d || b == c || b == d) continue;
                int all = cost(a, ww / 10) + cost(b, ww / 10) + cost(c, ww % 10) + cost(d, ww % 10);
                if (best == null || all < best[0]) best = new int[] {all, 10 * a + b, 10 * c + d};
            }
        }
        return best == null ? NOT : best[what];
    }

    int pairs(int what) {
        if (what < 0 || what > 2) return BAD;
        if (what == 0) return couples(now(), kins(), 0, 0);
        if (what == 1) return drought(new int[8], 0, 0);
        int bits = 0;
        int[] on = agreeingOn(now(), kins(), -1);
        for (int w = 0; w < 6; w++) if (on[w] == 1) bits |= 1 << w;
        return bits;
    }

    private int couples(int[] said, int[] kin, int c, int used) {
        if (c == said.length) return 0;
        int best = couples(said, kin, c + 1, used);
        if ((used >> c & 1) == 1) return best;
        for (int d = c + 1; d < said.length; d++) {
            if ((used >> d & 1) == 0 && agree(said, kin, c, d)) {
                best = Math.max(best, 1 + couples(said, kin, c + 1, used | 1 << c | 1 << d));
            }
        }
        return best;
    }

    /** Every way to lay the eight kins together is tried. */
    private int drought(int[] group, int k, int groups) {
        if (k == 8) {
            int[] said = now(), kin = kins();
            for (int c = 0; c < kin.length; c++) kin[c] = group[kin[c]];
            return happened(said, kin, -1) == 0 ? 8 - groups : 99;
        }
        int best = 99;
        for (int g = 0; g <= groups; g++) {
            group[k] = g;
            best = Math.min(best, drought(group, k + 1, Math.max(groups, g + 1)));
        }
        return best;
    }

    int strangers(int w) {
        if (!isWeather(w)) return BAD;
        for (int more = 0; more < 2; more++) {
            int n = people.size();
            int[] said = Arrays.copyOf(now(), n + more), kin = Arrays.copyOf(kins(), n + more);
            for (int i = 0; i < more; i++) {
                said[n + i] = w;
                kin[n + i] = 100 + i;
            }
            if ((happened(said, kin, -1) >> w & 1) == 1) return more;
        }
        return 2;
    }

    // ---- what was said, days

    private List<int[]> saidOn(int shelf) {
        long[] v = ((Row) shelves[shelf]).v;
        List<int[]> twos = new ArrayList<>();
        for (int i = 0; i + 1 < v.length && twos.size() < 8; i += 2) {
            if (!isCitizen(v[i]) || !isWeather(v[i + 1])) break;
            twos.add(new int[] {(int) v[i], (int) v[i + 1]});
        }
        return twos;
    }

    long likely(int shelf, int w, int part) {
        if (shelf < 0 || shelf > 5 || !isWeather(w) || part < 0 || part > 1 || refused(shelf) != 0) return Long.MIN_VALUE;
        java.math.BigInteger[] weights = new java.math.BigInteger[6];
        java.math.BigInteger sum = java.math.BigInteger.ZERO;
        for (int t = 0; t < 6; t++) {
            weights[t] = java.math.BigInteger.ONE;
            for (int[] two : saidOn(shelf)) {
                int eye = people.get(two[0]).eye;
                weights[t] = weights[t].multiply(java.math.BigInteger.valueOf(two[1] == t ? eye * 5 : 12 - eye));
            }
            sum = sum.add(weights[t]);
        }
        if (sum.signum() == 0) return part == 0 ? 0 : 1;
        java.math.BigInteger g = sum.gcd(weights[w]);
        return (part == 0 ? weights[w] : sum).divide(g).longValueExact();
    }

    int liars(int shelf, int what) {
        if (shelf < 0 || shelf > 5 || what < 0 || what > 1) return BAD;
        if (refused(shelf) != 0) return refused(shelf);
        int[] others = new int[6];
        for (int[] two : saidOn(shelf)) for (int w = 0; w < 6; w++) if (two[1] != w) others[w]++;
        int by = 0;
        for (int w = 5; w >= 0; w--) if (others[w] <= others[by]) by = w;
        return what == 0 ? others[by] : by;
    }

    private List<Integer> daysOf(int shelf) {
        List<Integer> all = new ArrayList<>();
        for (long v : ((Row) shelves[shelf]).v) {
            if (!isWeather(v) || all.size() == 40) break;
            all.add((int) v);
        }
        return all;
    }

    private List<Integer> happenedByDay(int shelf) {
        List<Integer> bits = new ArrayList<>();
        for (int t : daysOf(shelf)) bits.add(happened(on(t, Math.min(99, day + bits.size())), kins(), -1));
        return bits;
    }

    int days(int shelf, int what) {
        if (shelf < 0 || shelf > 5 || what < 0 || what > 2) return BAD;
        if (refused(shelf) != 0) return refused(shelf);
        List<Integer> bits = happenedByDay(shelf), fallen = daysOf(shelf);
        int n = 0, dry = 0;
        for (int i = 0; i < bits.size(); i++) {
            if (what == 0 && bits.get(i) != 0) n++;
            if (what == 1 && bits.get(i) == 1 << fallen.get(i)) n++;
            dry = bits.get(i) == 0 ? dry + 1 : 0;
            if (what == 2) n = Math.max(n, dry);
        }
        return n;
    }

    int judge(int ss) {
        if (ss < 0 || ss > 55 || ss % 10 > 5) return BAD;
        if (refused(ss / 10) != 0) return refused(ss / 10);
        if (refused(ss % 10) != 0) return refused(ss % 10);
        List<Integer> bits = happenedByDay(ss / 10);
        long[] told = ((Row) shelves[ss % 10]).v;
        for (int i = 0; i < told.length; i++) if (i >= bits.size() || told[i] != bits.get(i)) return i;
        return NOT;
    }

    int fits(int ss, int c, int what) {
        if (ss < 0 || ss > 55 || ss % 10 > 5 || !isCitizen(c) || what < 0 || what > 2) return BAD;
        if (judge(ss) < -10) return judge(ss);
        int n = 0, least = NOT, bits = 0;
        Citizen who = people.get(c);
        int eye = who.eye, kin = who.kin;
        for (int v = 12; v >= 0; v--) {
            who.eye = v;
            if (judge(ss) == NOT) {
                n++;
                least = v;
            }
        }
        who.eye = eye;
        for (int v = 0; v < 8; v++) {
            who.kin = v;
            if (judge(ss) == NOT) bits |= 1 << v;
        }
        who.kin = kin;
        return what == 0 ? n : what == 1 ? least : bits;
    }

    int byTurns(int w, int n, int what) {
        if (!isWeather(w) || n < 1 || n > 4 || what < 0 || what > 1) return VOID;
        int[] said = now();
        boolean[] free = new boolean[said.length];
        for (int c = 0; c < free.length; c++) free[c] = people.get(c).bought == -1;
        int[] out = turn(w, n, 0, said, free, kins());
        return out[what];
    }

    private int[] turn(int w, int n, int turn, int[] said, boolean[] free, int[] kin) {
        if (turn == n) return new int[] {(happened(said, kin, -1) >> w & 1) * 100, 10};
        int[] best = {turn(w, n, turn + 1, said, free, kin)[0], 10};
        for (int c = 0; c < said.length; c++) {
            if (!free[c]) continue;
            int before = said[c];
            free[c] = false;
            said[c] = turn % 2 == 0 ? w : (w + 1) % 6;
            int price = people.get(c).price;
            int v = turn(w, n, turn + 1, said, free, kin)[0] + (turn % 2 == 0 ? -price : price);
            said[c] = before;
            free[c] = true;
            if (turn % 2 == 0 ? v > best[0] : v < best[0]) best = new int[] {v, c};
        }
        return best;
    }

    int drawn(int seed, int nm, int w) {
        if (nm < 0) return BAD;
        int n = nm / 100, m = nm % 100;
        if (n < 1 || n > 30 || m < 1 || m > 40 || w < 0 || w > 6) return BAD;
        int z = seed, found = 0;
        for (int year = 0; year < n; year++) {
            int d = day;
            for (int i = 0; i < m; i++) {
                z = z * 1103515245 + 12345;
                int bits = 0;
                if (!people.isEmpty()) bits = happened(on((z >>> 8) % 6, d), kins(), (z >>> 16) % people.size());
                if (w == 6 ? bits == 0 : (bits >> w & 1) == 1) found++;
                d = Math.min(99, d + 1);
            }
        }
        return found;
    }

    // ---- in deed

    int claim(int c) {
        if (!isCitizen(c)) return BAD;
        if (clerk.contains(c)) return STATE;
        int[] said = now(), kin = kins();
        int bits = 0;
        for (int other : clerk) if (agree(said, kin, c, other)) bits |= 1 << Math.min(said[c], said[other]);
        bits &= ~today;
        clerk.add(c);
        today |= bits;
        led[0]++;
        led[1] += Integer.bitCount(bits);
        return bits;
    }

    int ends() {
        if (day < 99) day++;
        clerk.clear();
        today = 0;
        led[4]++;
        return day;
    }

    int marry(int kk) {
        if (kk < 0 || kk / 10 > 7 || kk % 10 > 7 || kk / 10 == kk % 10) return BAD;
        int lesser = Math.min(kk / 10, kk % 10), greater = Math.max(kk / 10, kk % 10);
        for (Citizen c : people) if (c.kin == greater) c.kin = lesser;
        led[2]++;
        return (int) people.stream().filter(c -> c.kin == lesser).count();
    }

    int paid(int c, int w) {
        if (!isCitizen(c) || w < 0 || w > 6) return BAD;
        Citizen who = people.get(c);
        who.bought = w == 6 ? -1 : w;
        if (w == 6) return 0;
        led[3] += who.price;
        return who.price;
    }

    int led(int what) {
        return what < 0 || what > 4 ? BAD : led[what];
    }

    int image() {
        image = new Image();
        image.kin = kins();
        image.bought = people.stream().mapToInt(c -> c.bought).toArray();
        image.day = day;
        image.today = today;
        image.clerk = new ArrayList<>(clerk);
        image.led = led.clone();
        return led[4];
    }

    int back() {
        if (image == null) return STATE;
        for (int c = 0; c < image.kin.length; c++) {
            people.get(c).kin = image.kin[c];
            people.get(c).bought = image.bought[c];
        }
        day = image.day;
        today = image.today;
        clerk = new ArrayList<>(image.clerk);
        led = image.led.clone();
        return led[4];
    }

    int undo() {
        if (done.isEmpty()) return STATE;
        int[] change = done.remove(done.size() - 1);
        set(change[0], change[1], change[2]);
        undone.add(change);
        return done.size();
    }

    int redo() {
        if (undone.isEmpty()) return STATE;
        int[] change = undone.remove(undone.size() - 1);
        set(change[0], change[1], change[3]);
        done.add(change);
        return undone.size();
    }

    // ---- acts: real classes, whose acts come from above by Java's own way

    interface Falls {
        int n();

        void ran(int body);

        default int falls(int x) {
            ran(1);
            return x + n();
        }
    }

    interface Tells {
        void ran(int body);

        int says(int x);

        int denies(int x);

        default int tells(int x) {
            ran(2);
            return says(x) - denies(1);
        }
    }

    static class Word implements Falls, Tells {
        int number, kind;
        List<Integer> trace;

        public int n() {
            return number;
        }

        public void ran(int body) {
            trace.add(body);
        }

        public int says(int x) {
            ran(10);
            return falls(x) * 2;
        }

        public int denies(int x) {
            ran(11);
            return x ^ n();
        }
    }

    static class Rain extends Word {
        public int falls(int x) {
            ran(20);
            return super.falls(x) + 3;
        }
    }

    static class Mist extends Word {
        public int says(int x) {
            ran(30);
            return -super.says(x);
        }
    }

    static class Fog extends Mist {
        public int denies(int x) {
            ran(40);
            return super.denies(x) * 3;
        }

        public int says(int x) {
            ran(41);
            return super.says(x + 1);
        }
    }

    static class Storm extends Rain {
        public int denies(int x) {
            ran(50);
            return super.denies(x) - falls(2);
        }
    }

    static class Clerk extends Fog {
        public int tells(int x) {
            ran(60);
            return super.tells(x) ^ 5;
        }
    }

    static class Cousin extends Word {
        public int falls(int x) {
            ran(70);
            return super.falls(x) * 2;
        }
    }

    static class Snow extends Storm {
        public int says(int x) {
            ran(80);
            return super.says(x) + denies(2);
        }

        public int tells(int x) {
            ran(81);
            return super.tells(x) - 1;
        }
    }

    private static final Class<?>[] KINDS = {Word.class, Rain.class, Mist.class, Fog.class, Storm.class, Clerk.class,
        Cousin.class, Snow.class};

    private static Word made(int kind) {
        switch (kind) {
            case 0: return new Word();
            case 1: return new Rain();
            case 2: return new Mist();
            case 3: return new Fog();
            case 4: return new Storm();
            case 5: return new Clerk();
            case 6: return new Cousin();
            default: return new Snow();
        }
    }

    int body(int kind) {
        if (kind < 0 || kind > 7) return BAD;
        if (words.size() == 50) return FULL;
        Word w = made(kind);
        w.kind = kind;
        w.number = words.size();
        w.trace = trace;
        words.add(w);
        return w.number;
    }

    int act(int body, int act, int x) {
        trace.clear();
        if (body < 0 || body >= words.size() || act < 0 || act > 3) return 0;
        Word w = words.get(body);
        return act == 0 ? w.falls(x) : act == 1 ? w.says(x) : act == 2 ? w.denies(x) : w.tells(x);
    }

    int trace(int i) {
        return i < 0 || i >= 24 || i >= trace.size() ? BAD : trace.get(i);
    }

    int keep(int shelf, int body) {
        if (shelf < 0 || shelf > 5 || body < -1 || body >= words.size()) return BAD;
        shelves[shelf] = body == -1 ? null : words.get(body);
        return 1;
    }

    int row(int shelf, int sort, int n) {
        if (shelf < 0 || shelf > 5 || sort < 0 || sort > 4 || n > 60) return BAD;
        if (n < 0) return -14;
        Row r = new Row();
        r.sort = sort;
        r.v = new long[n];
        shelves[shelf] = r;
        return 1;
    }

    int put(int shelf, int i, long v) {
        if (shelf < 0 || shelf > 5) return BAD;
        if (shelves[shelf] == null) return -11;
        if (!(shelves[shelf] instanceof Row)) return -12;
        Row r = (Row) shelves[shelf];
        if (i < 0 || i >= r.v.length) return -13;
        r.v[i] = r.sort == 0 ? (byte) v : r.sort == 1 ? (short) v : r.sort == 2 ? (int) v : r.sort == 3 ? v : v == 0 ? 0 : 1;
        return 1;
    }

    long element(int shelf, int i) {
        if (shelf < 0 || shelf > 5 || !(shelves[shelf] instanceof Row)) return Long.MIN_VALUE;
        Row r = (Row) shelves[shelf];
        return i < 0 || i >= r.v.length ? Long.MIN_VALUE : r.v[i];
    }

    int shift(int shelf, int i, int other, int j, int n) {
        if (shelf < 0 || shelf > 5 || other < 0 || other > 5) return BAD;
        if (shelves[shelf] == null || shelves[other] == null) return -11;
        if (!(shelves[shelf] instanceof Row) || !(shelves[other] instanceof Row)) return -12;
        Row a = (Row) shelves[shelf], b = (Row) shelves[other];
        if (a.sort != b.sort) return -12;
        if (n < 0 || i < 0 || j < 0 || (long) i + n > a.v.length || (long) j + n > b.v.length) return -13;
        long[] before = a.v.clone();
        for (int k = 0; k < n; k++) b.v[j + k] = before[i + k];
        return n;
    }

    int taken(int shelf, int k) {
        if (shelf < 0 || shelf > 5 || k < 0 || k > 7) return BAD;
        if (shelves[shelf] == null) return -11;
        return KINDS[k].isInstance(shelves[shelf]) ? ((Word) shelves[shelf]).kind : -12;
    }

    int count(int what) {
        switch (what) {
            case 0: return people.size();
            case 1: return clerk.size();
            case 2: return tape.length();
            case 3: return done.size();
            case 4: return words.size();
            case 5: return trace.size();
            default: return BAD;
        }
    }
}
