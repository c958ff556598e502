import java.math.BigInteger;
import java.util.ArrayList;
import java.util.HashMap;
import java.util.HashSet;
import java.util.List;
import java.util.Map;
import java.util.Set;
import java.util.TreeSet;
import java.util.regex.Matcher;
import java.util.regex.Pattern;

/**
 * The document once more, by other means than the class: texts by regular expressions, means as
 * fractions of chances, nights by trying one more until it is enough. Slow, and nothing is shared
 * with NamedDwarf.
 */
final class Oracle {
    static final int NONE = -1, BAD = -2, NOT = -3, FULL = -4;
    private static final long MIN = Long.MIN_VALUE;
    private static final int[] LIMIT = {80, 40, 6};
    private static final Pattern[] WHOLE = {
        Pattern.compile("([1-9][a-f]{1,6}(;[1-9][a-f]{1,6})*)?", Pattern.DOTALL),
        Pattern.compile("([+-][a-f]{1,3}(;[+-][a-f]{1,3})*)?", Pattern.DOTALL),
        Pattern.compile("[a-f.]{0,6}", Pattern.DOTALL)};
    private static final int[] PARTS = {10, 6, 99};

    record Name(int odds, String word) { }

    record Fraction(BigInteger above, BigInteger below) {
        static Fraction of(long above, long below) {
            return new Fraction(BigInteger.valueOf(above), BigInteger.valueOf(below)).lowest();
        }

        Fraction lowest() {
            BigInteger d = above.gcd(below);
            return d.signum() == 0 ? new Fraction(BigInteger.ZERO, BigInteger.ONE)
                    : new Fraction(above.divide(d), below.divide(d));
        }

        Fraction plus(Fraction o) {
            return new Fraction(above.multiply(o.below).add(o.above.multiply(below)), below.multiply(o.below)).lowest();
        }

        Fraction times(Fraction o) {
            return new Fraction(above.multiply(o.above), below.multiply(o.below)).lowest();
        }

        int against(Fraction o) {
            return above.multiply(o.below).compareTo(o.above.multiply(below));
        }

        long part(int what) {
            return (what == 0 ? above : below).longValueExact();
        }
    }

    record Plan(Fraction mean, int act) { }

    private final StringBuilder[] texts = {new StringBuilder(), new StringBuilder(), new StringBuilder()};
    private final int[] deal = {1, 5, 10, 100, 1};
    private List<Integer> guesses = new ArrayList<>();
    private final int[][] sheets = new int[4][];
    private final int[] forms = new int[4];
    private int finding;
    private final Map<String, Plan> plans = new HashMap<>();
    private final Map<String, Boolean> settled = new HashMap<>();

    private void changed() {
        plans.clear();
        settled.clear();
    }

    // ---- texts

    int type(int t, int b) {
        if (t < 0 || t > 2 || b < 0 || b > 255) return BAD;
        if (texts[t].length() >= LIMIT[t]) return FULL;
        texts[t].append((char) b);
        changed();
        return texts[t].length();
    }

    int wipe(int t) {
        if (t < 0 || t > 2) return BAD;
        int had = texts[t].length();
        texts[t].setLength(0);
        changed();
        return had;
    }

    int undo(int t) {
        if (t < 0 || t > 2) return BAD;
        if (texts[t].length() == 0) return NOT;
        texts[t].setLength(texts[t].length() - 1);
        changed();
        return texts[t].length();
    }

    private static boolean canGoOn(int t, String start) {
        Matcher m = WHOLE[t].matcher(start);
        boolean whole = m.matches();
        if (!whole && !m.hitEnd()) return false;
        long ended = start.chars().filter(c -> c == ';').count();
        return ended < PARTS[t] || ended == PARTS[t] && start.endsWith(";");
    }

    int fault(int t) {
        if (t < 0 || t > 2) return BAD;
        String all = texts[t].toString();
        for (int i = 0; i < all.length(); i++) {
            if (!canGoOn(t, all.substring(0, i + 1))) return i;
        }
        return WHOLE[t].matcher(all).matches() ? NONE : all.length();
    }

    private String well(int t) {
        return fault(t) == NONE ? texts[t].toString() : "";
    }

    private List<Name> names() {
        List<Name> list = new ArrayList<>();
        for (String s : well(0).split(";")) {
            if (!s.isEmpty()) list.add(new Name(s.charAt(0) - '0', s.substring(1)));
        }
        return list;
    }

    private List<String> pieces() {
        List<String> list = new ArrayList<>();
        for (String s : well(1).split(";")) {
            if (!s.isEmpty()) list.add(s);
        }
        return list;
    }

    private boolean isName(int name) {
        return name >= 0 && name < names().size();
    }

    int name(int name, int i) {
        if (!isName(name) || i < -2 || i > 5) return BAD;
        Name n = names().get(name);
        if (i == -1) return n.odds;
        if (i == -2) return n.word.length();
        return i < n.word.length() ? n.word.charAt(i) - 'a' : NONE;
    }

    int set(int what, int v) {
        int[] from = {1, 0, 1, 0, 1};
        int[] to = {99, 99, 12, 9999, 3};
        if (what < 0 || what > 4 || v < from[what] || v > to[what]) return BAD;
        int was = deal[what];
        deal[what] = v;
        changed();
        return was;
    }

    int guess(int name) {
        if (name < 0 || name > 9) return BAD;
        if (guesses.size() == 12) return FULL;
        guesses.add(name);
        return guesses.size();
    }

    int unguess() {
        if (guesses.isEmpty()) return NOT;
        guesses.remove(guesses.size() - 1);
        return guesses.size();
    }

    int read(int s) {
        if (s < 0 || s > 3) return BAD;
        if (sheets[s] == null) return tell(1);
        guesses = new ArrayList<>();
        for (int item : sheets[s]) {
            if (item < 0 || item > 9 || guesses.size() == 12) break;
            guesses.add(item);
        }
        return guesses.size();
    }

    // ---- which he is

    private boolean heardIn(String word, String piece) {
        return word.contains(piece.substring(1)) == (piece.charAt(0) == '+');
    }

    private List<Integer> fitting(int pieceBits) {
        List<Integer> list = new ArrayList<>();
        List<Name> names = names();
        List<String> pieces = pieces();
        String song = well(2);
        for (int i = 0; i < names.size(); i++) {
            boolean fits = song.isEmpty() || names.get(i).word.matches(song);
            for (int p = 0; p < pieces.size(); p++) {
                if ((pieceBits >> p & 1) == 1) fits &= heardIn(names.get(i).word, pieces.get(p));
            }
            if (fits) list.add(i);
        }
        return list;
    }

    private static int bits(Iterable<Integer> list) {
        int bits = 0;
        for (int i : list) bits |= 1 << i;
        return bits;
    }

    int fits() {
        return bits(fitting(63));
    }

    private int odds(Iterable<Integer> list) {
        int sum = 0;
        for (int i : list) sum += names().get(i).odds;
        return sum;
    }

    long chance(int name, int what) {
        if (!isName(name) || what < 0 || what > 1) return MIN + 2;
        List<Integer> fit = fitting(63);
        if (fit.isEmpty()) return MIN + 3;
        return Fraction.of(fit.contains(name) ? names().get(name).odds : 0, odds(fit)).part(what);
    }

    int heard(int piece) {
        if (piece < 0 || piece >= pieces().size()) return BAD;
        Set<Integer> set = new TreeSet<>();
        for (int i = 0; i < names().size(); i++) {
            if (heardIn(names().get(i).word, pieces().get(piece))) set.add(i);
        }
        return bits(set);
    }

    private static boolean oneOff(String a, String b) {
        int unlike = 0;
        for (int i = 0; i < Math.min(a.length(), b.length()); i++) {
            if (a.charAt(i) != b.charAt(i)) unlike++;
        }
        return a.length() == b.length() && unlike == 1;
    }

    int off(int name) {
        if (!isName(name)) return BAD;
        int bits = 0;
        for (int i = 0; i < names().size(); i++) {
            if (oneOff(names().get(i).word, names().get(name).word)) bits |= 1 << i;
        }
        return bits;
    }

    private int promise(int night) {
        int gold = deal[0];
        for (int n = 0; n < night; n++) gold *= 2;
        return gold;
    }

    /** Night by night: {night or NONE, paid}. */
    private int[] went(List<Integer> row, int name) {
        int paid = 0;
        int next = 0;
        for (int night = 0; night < deal[2]; night++) {
            for (int i = 0; i < deal[4] && next < row.size(); i++) {
                if (row.get(next) == name) return new int[] {night, paid + promise(night)};
                paid += deal[1];
                next++;
            }
        }
        return new int[] {NONE, paid + promise(deal[2]) + deal[3]};
    }

    int named(int name, int what) {
        if (!isName(name) || what < 0 || what > 1) return BAD;
        return went(guesses, name)[what];
    }

    // ---- rows, the wisest

    private List<Integer> rowOf() {
        List<Integer> list = fitting(63);
        List<Name> names = names();
        list.sort((a, b) -> names.get(a).odds != names.get(b).odds ? names.get(b).odds - names.get(a).odds : a - b);
        return list;
    }

    int row(int i) {
        if (i < 0 || i > 9) return BAD;
        return i < rowOf().size() ? rowOf().get(i) : NONE;
    }

    long mean(int what) {
        if (what < 0 || what > 1) return MIN + 2;
        List<Integer> row = rowOf();
        if (row.isEmpty()) return MIN + 3;
        Fraction mean = Fraction.of(0, 1);
        for (int name : row) {
            Fraction chance = Fraction.of(names().get(name).odds, odds(row));
            mean = mean.plus(chance.times(Fraction.of(went(row, name)[1], 1)));
        }
        return mean.part(what);
    }

    private static String soundAt(String word, int place) {
        return place < word.length() ? word.substring(place, place + 1) : "";
    }

    private List<Set<Integer>> heardAt(List<Name> names, Set<Integer> left, int place) {
        Map<String, Set<Integer>> groups = new HashMap<>();
        for (int i : left) groups.computeIfAbsent(soundAt(names.get(i).word, place), k -> new TreeSet<>()).add(i);
        return new ArrayList<>(groups.values());
    }

    private Plan plan(List<Name> names, int night, Set<Integer> left) {
        if (left.isEmpty()) return new Plan(Fraction.of(0, 1), NONE);
        if (night == deal[2]) return new Plan(Fraction.of(promise(night) + deal[3], 1), NONE);
        String key = night + ":" + left;
        Plan known = plans.get(key);
        if (known != null) return known;
        int all = 0;
        for (int i : left) all += names.get(i).odds;
        Plan best = null;
        for (int i : left) {
            Set<Integer> others = new TreeSet<>(left);
            others.remove(i);
            Fraction right = Fraction.of(names.get(i).odds, all);
            Fraction wrong = Fraction.of(all - names.get(i).odds, all);
            Fraction mean = right.times(Fraction.of(promise(night), 1))
                    .plus(wrong.times(Fraction.of(deal[1], 1).plus(plan(names, night + 1, others).mean)));
            if (best == null || mean.against(best.mean) < 0) best = new Plan(mean, i);
        }
        for (int place = 0; place < 6; place++) {
            Fraction mean = Fraction.of(0, 1);
            for (Set<Integer> group : heardAt(names, left, place)) {
                int odds = 0;
                for (int i : group) odds += names.get(i).odds;
                mean = mean.plus(Fraction.of(odds, all).times(plan(names, night + 1, group).mean));
            }
            if (mean.against(best.mean) < 0) best = new Plan(mean, 10 + place);
        }
        plans.put(key, best);
        return best;
    }

    private Set<Integer> told(int bits) {
        Set<Integer> set = new TreeSet<>();
        for (int i = 0; i < names().size(); i++) {
            if ((bits >> i & 1) == 1) set.add(i);
        }
        return set;
    }

    long wisest(int night, int bits, int what) {
        if (night < 0 || night > deal[2] || bits < 0 || bits > 1023 || what < 0 || what > 2) return MIN + 2;
        Plan plan = plan(names(), night, told(bits));
        return what == 2 ? plan.act : plan.mean.part(what);
    }

    int listen(int what) {
        if (what < 0 || what > 1) return BAD;
        Set<Integer> fit = new TreeSet<>(fitting(63));
        if (fit.isEmpty()) return NOT;
        int best = NONE;
        int fewest = 99;
        for (int place = 0; place < 6; place++) {
            int worst = 0;
            for (Set<Integer> group : heardAt(names(), fit, place)) worst = Math.max(worst, group.size());
            if (worst < fewest) {
                fewest = worst;
                best = place;
            }
        }
        return what == 0 ? best : fewest;
    }

    private boolean isSureIn(List<Name> names, Set<Integer> left, int nights) {
        if (left.isEmpty()) return true;
        if (nights == 0) return false;
        String key = nights + ":" + left;
        Boolean known = settled.get(key);
        if (known != null) return known;
        boolean sure = false;
        for (int i : left) {
            Set<Integer> others = new TreeSet<>(left);
            others.remove(i);
            sure |= isSureIn(names, others, nights - 1);
        }
        for (int place = 0; place < 6 && !sure; place++) {
            boolean each = true;
            for (Set<Integer> group : heardAt(names, left, place)) each &= isSureIn(names, group, nights - 1);
            sure = each;
        }
        settled.put(key, sure);
        return sure;
    }

    int sure() {
        int nights = 0;
        while (!isSureIn(names(), new TreeSet<>(fitting(63)), nights)) nights++;
        return nights;
    }

    // ---- worth, pools, songs

    int spun(int v) {
        if (v < 0 || v > 99999) return BAD;
        Set<Integer> fit = new TreeSet<>(fitting(63));
        if (fit.isEmpty()) return NOT;
        return Fraction.of(v, 1).against(plan(names(), 0, fit).mean) >= 0 ? 1 : 0;
    }

    int pool(int a, int b, int what) {
        if (a < 0 || a > 63 || b < 0 || b > 63 || what < 0 || what > 2) return BAD;
        List<Integer> one = fitting(a);
        List<Integer> other = fitting(b);
        if (what < 2) return (what == 0 ? one : other).size();
        Set<Integer> both = new HashSet<>(one);
        both.retainAll(other);
        return both.size();
    }

    int shortest(int what) {
        if (what < 0 || what > 1) return BAD;
        int all = (1 << pieces().size()) - 1;
        for (int many = 0; many <= 6; many++) {
            for (int bits = 0; bits <= all; bits++) {
                if (Integer.bitCount(bits) == many && bits(fitting(bits)) == fits()) return what == 0 ? many : bits;
            }
        }
        throw new IllegalStateException("all pieces tell what all pieces tell");
    }

    int sung(int bits, int i) {
        if (bits < 0 || bits > 1023 || i < 0 || i > 5) return BAD;
        Set<Integer> told = told(bits);
        if (told.isEmpty()) return BAD;
        Set<Integer> lengths = new HashSet<>();
        Set<String> sounds = new HashSet<>();
        for (int name : told) {
            lengths.add(names().get(name).word.length());
            sounds.add(soundAt(names().get(name).word, i));
        }
        if (lengths.size() > 1 || sounds.contains("")) return NONE;
        return sounds.size() > 1 ? '.' : sounds.iterator().next().charAt(0);
    }

    int changes(int from, int to) {
        if (!isName(from) || !isName(to)) return BAD;
        List<Name> names = names();
        int many = names.size();
        int[][] far = new int[many][many];
        for (int i = 0; i < many; i++) {
            for (int j = 0; j < many; j++) {
                far[i][j] = i == j ? 0 : oneOff(names.get(i).word, names.get(j).word) ? 1 : 1000;
            }
        }
        for (int k = 0; k < many; k++) {
            for (int i = 0; i < many; i++) {
                for (int j = 0; j < many; j++) far[i][j] = Math.min(far[i][j], far[i][k] + far[k][j]);
            }
        }
        return far[from][to] >= 1000 ? NONE : far[from][to];
    }

    // ---- sheets

    private int tell(int number) {
        finding = number;
        return -10 - number;
    }

    int sheet(int s, int form, int n) {
        if (s < 0 || s > 3 || form < 0 || form > 2 || n > 60) return BAD;
        if (n < 0) return tell(5);
        sheets[s] = new int[n];
        forms[s] = form;
        return n;
    }

    int lose(int s) {
        if (s < 0 || s > 3) return BAD;
        if (sheets[s] == null) return tell(1);
        int had = sheets[s].length;
        sheets[s] = null;
        return had;
    }

    private static int lowest(int form, int v) {
        int gone = form == 0 ? 24 : form == 1 ? 16 : 0;
        return v << gone >> gone;
    }

    private int refusal(int s, int form, int i) {
        if (s < 0 || s > 3 || form < 0 || form > 2) return BAD;
        if (sheets[s] == null) return tell(1);
        if (forms[s] != form) return tell(3);
        if (i < 0 || i >= sheets[s].length) return tell(2);
        return 0;
    }

    int lay(int s, int form, int i, int v) {
        int refused = refusal(s, form, i);
        if (refused != 0) return refused;
        sheets[s][i] = lowest(form, v);
        return 1;
    }

    int get(int s, int form, int i) {
        return refusal(s, form, i) != 0 ? Integer.MIN_VALUE : sheets[s][i];
    }

    int copy(int s, int i, int t, int j, int n) {
        if (s < 0 || s > 3 || t < 0 || t > 3) return BAD;
        if (sheets[s] == null || sheets[t] == null) return tell(1);
        if (forms[s] != forms[t]) return tell(4);
        if (i < 0 || j < 0 || n < 0) return tell(2);
        if (i > sheets[s].length || n > sheets[s].length - i) return tell(2);
        if (j > sheets[t].length || n > sheets[t].length - j) return tell(2);
        int[] were = sheets[s].clone();
        for (int k = 0; k < n; k++) sheets[t][j + k] = were[i + k];
        return 1;
    }

    int write(int s) {
        if (s < 0 || s > 3) return BAD;
        if (sheets[s] == null) return tell(1);
        List<Integer> row = rowOf();
        int many = 0;
        while (many < row.size() && many < sheets[s].length) {
            sheets[s][many] = lowest(forms[s], row.get(many));
            many++;
        }
        return many;
    }

    int count(int what) {
        return switch (what) {
            case 0 -> names().size();
            case 1 -> pieces().size();
            case 2 -> well(2).length();
            case 3, 4, 5 -> texts[what - 3].length();
            case 6 -> guesses.size();
            case 7 -> fitting(63).size();
            case 8 -> finding;
            default -> BAD;
        };
    }

    long digest() {
        List<Long> told = new ArrayList<>();
        for (int what = 0; what <= 7; what++) told.add((long) count(what));
        for (int t = 0; t < 3; t++) told.add((long) fault(t));
        told.add((long) fits());
        for (int n = 0; n < names().size(); n++) {
            told.add((long) name(n, -2));
            told.add((long) name(n, NONE));
            told.add((long) name(n, 0));
            told.add(chance(n, 0));
            told.add(chance(n, 1));
            told.add((long) off(n));
            told.add((long) named(n, 0));
            told.add((long) named(n, 1));
            told.add((long) changes(0, n));
        }
        for (int p = 0; p < pieces().size(); p++) told.add((long) heard(p));
        for (int i = 0; i < 10; i++) told.add((long) row(i));
        told.add(mean(0));
        told.add(mean(1));
        for (int what = 0; what < 3; what++) told.add(wisest(0, fits(), what));
        told.add(wisest(2, 7, 0));
        told.add((long) listen(0));
        told.add((long) listen(1));
        told.add((long) sure());
        told.add((long) spun(99));
        for (int what = 0; what < 3; what++) told.add((long) pool(1, 2, what));
        told.add((long) shortest(0));
        told.add((long) shortest(1));
        told.add((long) sung(3, 0));
        long h = 17;
        for (long answer : told) h = 31 * h + answer;
        return h;
    }
}
