/**
 * "Refusals, the first that fits, in the order told at each act: BAD -2 (a number not as told, no
 * such thing), NULL, NOT -3 (as told), FULL -4, other FINDINGS. They change nothing (FINDINGS but
 * count() 8). Where the answer is a long, a refusal -x is the least long and x more."
 * Each call that is refused: its answer, the FINDING behind it, and that all else is as it was.
 */
public final class RefusalsTest {
    private static final int NONE = Scene.NONE, BAD = Scene.BAD, NOT = Scene.NOT, FULL = Scene.FULL;
    private static final int NULL = Scene.NULL, INDEX = Scene.INDEX, CAST = Scene.CAST, STORE = Scene.STORE, SIZE = Scene.SIZE;
    private static final int LEAST_INT = Scene.LEAST_INT, MOST_INT = Scene.MOST_INT;
    private static final long LONG_BAD = Scene.LONG_BAD, LONG_NOT = Scene.LONG_NOT;
    private static final Due due = new Due("RefusalsTest");

    private interface Made {
        NamedDwarf make();
    }

    private interface Call {
        long of(NamedDwarf x);
    }

    /** A call with one of its numbers open. */
    private interface With {
        long of(NamedDwarf x, int open);
    }

    public static void main(String[] args) {
        seeing();
        numbers();
        textRefusals();
        nameRefusals();
        dealRefusals();
        guessRefusals();
        whichRefusals();
        rowRefusals();
        wisestRefusals();
        poolRefusals();
        sungRefusals();
        noneFits();
        newSheetRefusals();
        lostSheets();
        layRefusals();
        getRefusals();
        copyRefusals();
        countRefusals();
        due.end();
    }

    /** The FINDING that is the latest ahead of the call is once another one, once none. */
    private static void refused(String told, Made made, Call call, long answer, int finding) {
        refusedBehind(told, made, call, answer, finding, 0);
        refusedBehind(told + " behind a FINDING", made, call, answer, finding, finding == 5 ? 1 : 5);
    }

    private static void refusedBehind(String told, Made made, Call call, long answer, int finding, int latest) {
        NamedDwarf x = made.make();
        NamedDwarf untouched = made.make();
        if (latest == 1) {
            x.lose(3);
        } else if (latest == 5) {
            x.sheet(0, 0, -1);
        }
        due.answer(told, call.of(x), answer);
        due.answer(told + ": the FINDING", x.count(8), finding == 0 ? latest : finding);
        due.holds(told + " changes nothing", Scene.seen(x).equals(Scene.seen(untouched)));
    }

    /** The first numbers that are not told on both sides, and the last that there are. */
    private static void outside(String told, int from, int to, With call, long answer) {
        for (int open : new int[] {from - 1, to + 1, LEAST_INT, MOST_INT}) {
            refused(told + " with " + open, Scene::busy, x -> call.of(x, open), answer, 0);
        }
    }

    private static void changed(String told, Call call) {
        NamedDwarf x = Scene.busy();
        call.of(x);
        due.holds("seen: " + told, !Scene.seen(x).equals(Scene.seen(Scene.busy())));
    }

    /** What is held against each other behind a refusal would show a change. */
    private static void seeing() {
        due.answer("fits() of the busy one", Scene.busy().fits(), 4 + 8 + 16);
        due.holds("seen: the same twice", Scene.seen(Scene.busy()).equals(Scene.seen(Scene.busy())));
        int[] deal = {2, 3, 4, 7, 2};
        for (int term = 0; term < 5; term++) {
            int what = term;
            changed("set(" + what + ")", x -> x.set(what, deal[what] + 1));
        }
        for (int text = 0; text < 3; text++) {
            int t = text;
            changed("type(" + t + ")", x -> x.type(t, 200));
            changed("undo(" + t + ")", x -> x.undo(t));
            changed("wipe(" + t + ")", x -> x.wipe(t));
        }
        changed("guess", x -> x.guess(9));
        changed("unguess", x -> x.unguess());
        changed("read", x -> x.read(2));
        for (int sheet = 0; sheet < 3; sheet++) {
            int s = sheet;
            changed("lay(" + s + ")", x -> x.lay(s, s, 2 + s, 77));
            changed("lose(" + s + ")", x -> x.lose(s));
            changed("sheet(" + s + ")", x -> x.sheet(s, s, 3 + s));
            changed("write(" + s + ")", x -> x.write(s));
        }
        changed("sheet(3)", x -> x.sheet(3, 0, 0));
        changed("copy", x -> x.copy(2, 0, 2, 1, 1));
    }

    private static void numbers() {
        due.answer("NONE", NONE, -1);
        due.answer("BAD", BAD, -2);
        due.answer("NOT", NOT, -3);
        due.answer("FULL", FULL, -4);
        due.answer("a BAD that is long", Scene.busy().chance(9, 0), -9223372036854775806L);
        due.answer("a NOT that is long", new NamedDwarf().mean(0), -9223372036854775805L);
    }

    private static void textRefusals() {
        outside("type(_, 97)", 0, 2, (x, t) -> x.type(t, 97), BAD);
        outside("type(0, _)", 0, 255, (x, b) -> x.type(0, b), BAD);
        outside("wipe(_)", 0, 2, (x, t) -> x.wipe(t), BAD);
        outside("undo(_)", 0, 2, (x, t) -> x.undo(t), BAD);
        outside("fault(_)", 0, 2, (x, t) -> x.fault(t), BAD);
        String[] full = {Scene.LONGEST_TEN + ";", Scene.LONGEST_SIX + ";+a;+a;+a;+", "ab.def"};
        for (int text = 0; text < 3; text++) {
            int t = text;
            Made made = () -> Scene.dwarf(t == 0 ? full[0] : "1a", t == 1 ? full[1] : "", t == 2 ? full[2] : "");
            due.answer("bytes of full text " + t, made.make().count(3 + t), new int[] {80, 40, 6}[t]);
            refused("type, full, " + t, made, x -> x.type(t, 97), FULL, 0);
            refused("type, BAD ahead of FULL, " + t, made, x -> x.type(t, 256), BAD, 0);
            refused("undo of an empty text " + t, NamedDwarf::new, x -> x.undo(t), NOT, 0);
        }
    }

    private static void nameRefusals() {
        // five NAMES, 0 to 4; i is -2 to 5
        outside("name(_, 0)", 0, 4, (x, name) -> x.name(name, 0), BAD);
        outside("name(0, _)", -2, 5, (x, i) -> x.name(0, i), BAD);
        refused("name(0, 0) of none", NamedDwarf::new, x -> x.name(0, 0), BAD, 0);
    }

    private static void dealRefusals() {
        outside("set(_, 1)", 0, 4, (x, what) -> x.set(what, 1), BAD);
        outside("set GOLD", 1, 99, (x, v) -> x.set(0, v), BAD);
        outside("set COW", 0, 99, (x, v) -> x.set(1, v), BAD);
        outside("set NIGHTS", 1, 12, (x, v) -> x.set(2, v), BAD);
        outside("set RUIN", 0, 9999, (x, v) -> x.set(3, v), BAD);
        outside("set A NIGHT", 1, 3, (x, v) -> x.set(4, v), BAD);
    }

    private static NamedDwarf fullOfGuesses() {
        NamedDwarf x = Scene.named("1a;1b");
        Scene.guess(x, 1, 9, 9, 9, 9, 9, 9, 9, 9, 9, 9, 0);
        return x;
    }

    private static void guessRefusals() {
        outside("guess(_)", 0, 9, (x, name) -> x.guess(name), BAD);
        refused("guess, full", RefusalsTest::fullOfGuesses, x -> x.guess(0), FULL, 0);
        refused("guess, BAD ahead of FULL", RefusalsTest::fullOfGuesses, x -> x.guess(10), BAD, 0);
        refused("unguess of none", NamedDwarf::new, x -> x.unguess(), NOT, 0);
        refused("unguess of none, NAMES there", () -> Scene.named("1a"), x -> x.unguess(), NOT, 0);
        outside("read(_)", 0, 3, (x, s) -> x.read(s), BAD);
        refused("read of a LOST one", Scene::busy, x -> x.read(3), NULL, 1);
    }

    private static void whichRefusals() {
        outside("chance(_, 0)", 0, 4, (x, name) -> x.chance(name, 0), LONG_BAD);
        outside("chance(0, _)", 0, 1, (x, what) -> x.chance(0, what), LONG_BAD);
        // two PIECES, 0 and 1
        outside("heard(_)", 0, 1, (x, piece) -> x.heard(piece), BAD);
        outside("off(_)", 0, 4, (x, name) -> x.off(name), BAD);
        outside("named(_, 0)", 0, 4, (x, name) -> x.named(name, 0), BAD);
        outside("named(0, _)", 0, 1, (x, what) -> x.named(0, what), BAD);
        refused("chance(0, 0) of none", NamedDwarf::new, x -> x.chance(0, 0), LONG_BAD, 0);
        refused("heard(0) of none", NamedDwarf::new, x -> x.heard(0), BAD, 0);
        refused("off(0) of none", NamedDwarf::new, x -> x.off(0), BAD, 0);
        refused("named(0, 0) of none", NamedDwarf::new, x -> x.named(0, 0), BAD, 0);
    }

    private static void rowRefusals() {
        outside("row(_)", 0, 9, (x, i) -> x.row(i), BAD);
        outside("mean(_)", 0, 1, (x, what) -> x.mean(what), LONG_BAD);
        outside("listen(_)", 0, 1, (x, what) -> x.listen(what), BAD);
    }

    private static void wisestRefusals() {
        // NIGHTS is 4
        outside("wisest(_, 31, 0)", 0, 4, (x, night) -> x.wisest(night, 31, 0), LONG_BAD);
        outside("wisest(0, _, 1)", 0, 1023, (x, names) -> x.wisest(0, names, 1), LONG_BAD);
        outside("wisest(0, 31, _)", 0, 2, (x, what) -> x.wisest(0, 31, what), LONG_BAD);
        refused("wisest(11, 0, 0), none left", NamedDwarf::new, x -> x.wisest(11, 0, 0), LONG_BAD, 0);
    }

    private static void poolRefusals() {
        outside("spun(_)", 0, 99999, (x, v) -> x.spun(v), BAD);
        outside("pool(_, 0, 0)", 0, 63, (x, a) -> x.pool(a, 0, 0), BAD);
        outside("pool(0, _, 0)", 0, 63, (x, b) -> x.pool(0, b, 0), BAD);
        outside("pool(0, 0, _)", 0, 2, (x, what) -> x.pool(0, 0, what), BAD);
        outside("shortest(_)", 0, 1, (x, what) -> x.shortest(what), BAD);
    }

    private static void sungRefusals() {
        outside("sung(_, 0)", 0, 1023, (x, names) -> x.sung(names, 0), BAD);
        outside("sung(1, _)", 0, 5, (x, i) -> x.sung(1, i), BAD);
        refused("sung(0, 0): none told", Scene::busy, x -> x.sung(0, 0), BAD, 0);
        refused("sung(32, 0): none that there is", Scene::busy, x -> x.sung(32, 0), BAD, 0);
        refused("sung(992, 0): none that there is", Scene::busy, x -> x.sung(992, 0), BAD, 0);
        refused("sung(1023, 0) of none", NamedDwarf::new, x -> x.sung(1023, 0), BAD, 0);
        outside("changes(_, 0)", 0, 4, (x, from) -> x.changes(from, 0), BAD);
        outside("changes(0, _)", 0, 4, (x, to) -> x.changes(0, to), BAD);
        refused("changes(0, 0) of none", NamedDwarf::new, x -> x.changes(0, 0), BAD, 0);
    }

    private static void noneFits() {
        Made made = () -> Scene.dwarf("1a;2b", "+c", "");
        for (int what = 0; what <= 1; what++) {
            int w = what;
            refused("chance, none fits", made, x -> x.chance(1, w), LONG_NOT, 0);
            refused("mean, none fits", made, x -> x.mean(w), LONG_NOT, 0);
            refused("mean, none there", NamedDwarf::new, x -> x.mean(w), LONG_NOT, 0);
            refused("listen, none fits", made, x -> x.listen(w), NOT, 0);
            refused("listen, none there", NamedDwarf::new, x -> x.listen(w), NOT, 0);
        }
        refused("spun(0), none fits", made, x -> x.spun(0), NOT, 0);
        refused("spun(99999), none fits", made, x -> x.spun(99999), NOT, 0);
        refused("spun, none there", NamedDwarf::new, x -> x.spun(0), NOT, 0);
        refused("chance, BAD NAME ahead of NOT", made, x -> x.chance(2, 0), LONG_BAD, 0);
        refused("chance, BAD ahead of NOT", made, x -> x.chance(0, 2), LONG_BAD, 0);
        refused("mean, BAD ahead of NOT", made, x -> x.mean(2), LONG_BAD, 0);
        refused("listen, BAD ahead of NOT", made, x -> x.listen(2), BAD, 0);
        refused("spun, BAD ahead of NOT", made, x -> x.spun(100000), BAD, 0);
        refused("spun, BAD ahead of NOT, below", made, x -> x.spun(-1), BAD, 0);
    }

    private static void newSheetRefusals() {
        outside("sheet(_, 0, 1)", 0, 3, (x, s) -> x.sheet(s, 0, 1), BAD);
        outside("sheet(0, _, 1)", 0, 2, (x, form) -> x.sheet(0, form, 1), BAD);
        for (int n : new int[] {61, 62, MOST_INT}) {
            refused("sheet(1, 1, " + n + ")", Scene::busy, x -> x.sheet(1, 1, n), BAD, 0);
        }
        for (int n : new int[] {-1, -2, LEAST_INT}) {
            refused("sheet(1, 1, " + n + ")", Scene::busy, x -> x.sheet(1, 1, n), SIZE, 5);
            refused("sheet(3, 1, " + n + "), a LOST one", Scene::busy, x -> x.sheet(3, 1, n), SIZE, 5);
            outside("sheet(_, 0, " + n + "), BAD ahead of SIZE", 0, 3, (x, s) -> x.sheet(s, 0, n), BAD);
            outside("sheet(0, _, " + n + "), BAD ahead of SIZE", 0, 2, (x, form) -> x.sheet(0, form, n), BAD);
        }
    }

    private static void lostSheets() {
        outside("lose(_)", 0, 3, (x, s) -> x.lose(s), BAD);
        refused("lose of a LOST one", Scene::busy, x -> x.lose(3), NULL, 1);
        outside("write(_)", 0, 3, (x, s) -> x.write(s), BAD);
        refused("write to a LOST one", Scene::busy, x -> x.write(3), NULL, 1);
        for (int s = 0; s < 4; s++) {
            int lost = s;
            refused("lose(" + s + ") of a new object", NamedDwarf::new, x -> x.lose(lost), NULL, 1);
            refused("read(" + s + ") of a new object", NamedDwarf::new, x -> x.read(lost), NULL, 1);
            refused("write(" + s + ") of a new object", NamedDwarf::new, x -> x.write(lost), NULL, 1);
        }
    }

    private static void layRefusals() {
        outside("lay(_, 0, 0, 1)", 0, 3, (x, s) -> x.lay(s, 0, 0, 1), BAD);
        outside("lay(0, _, 0, 1)", 0, 2, (x, form) -> x.lay(0, form, 0, 1), BAD);
        outside("lay(3, _, 0, 1), BAD ahead of NULL", 0, 2, (x, form) -> x.lay(3, form, 0, 1), BAD);
        refused("lay(3, 0, 0, 1)", Scene::busy, x -> x.lay(3, 0, 0, 1), NULL, 1);
        refused("lay(3, 2, -1, 1), NULL ahead of INDEX", Scene::busy, x -> x.lay(3, 2, -1, 1), NULL, 1);
        for (int s = 0; s < 3; s++) {
            for (int form = 0; form < 3; form++) {
                int at = s;
                int as = form;
                // SHEET s is of FORM s and has 3 + s items
                if (s != form) {
                    refused("lay, CAST", Scene::busy, x -> x.lay(at, as, 0, 1), CAST, 3);
                    refused("lay, CAST ahead of INDEX", Scene::busy, x -> x.lay(at, as, 60, 1), CAST, 3);
                }
            }
            int at = s;
            for (int i : new int[] {-1, 3 + s, LEAST_INT, MOST_INT}) {
                refused("lay, INDEX " + i, Scene::busy, x -> x.lay(at, at, i, 1), INDEX, 2);
            }
        }
    }

    private static void getRefusals() {
        outside("get(_, 0, 0)", 0, 3, (x, s) -> x.get(s, 0, 0), LEAST_INT);
        outside("get(0, _, 0)", 0, 2, (x, form) -> x.get(0, form, 0), LEAST_INT);
        outside("get(3, _, 0), BAD ahead of NULL", 0, 2, (x, form) -> x.get(3, form, 0), LEAST_INT);
        refused("get(3, 0, 0)", Scene::busy, x -> x.get(3, 0, 0), LEAST_INT, 1);
        refused("get(3, 2, -1), NULL ahead of INDEX", Scene::busy, x -> x.get(3, 2, -1), LEAST_INT, 1);
        refused("get(0, 1, 0)", Scene::busy, x -> x.get(0, 1, 0), LEAST_INT, 3);
        refused("get(2, 1, 5), CAST ahead of INDEX", Scene::busy, x -> x.get(2, 1, 5), LEAST_INT, 3);
        for (int s = 0; s < 3; s++) {
            int at = s;
            for (int i : new int[] {-1, 3 + s, LEAST_INT, MOST_INT}) {
                refused("get, INDEX " + i, Scene::busy, x -> x.get(at, at, i), LEAST_INT, 2);
            }
        }
    }

    /** SHEETS 0, 1 of 5 and 3 ints; 2 of 4 shorts; 3 is LOST. */
    private static NamedDwarf rowsToCopy() {
        NamedDwarf x = new NamedDwarf();
        Scene.lay(x, 0, 2, 1, 2, 3, 4, 5);
        Scene.lay(x, 1, 2, 6, 7, 8);
        Scene.lay(x, 2, 1, 9, 10, 11, 12);
        return x;
    }

    private static void copyRefused(int answer, int finding, int[]... numbers) {
        for (int[] n : numbers) {
            String told = "copy(" + n[0] + ", " + n[1] + ", " + n[2] + ", " + n[3] + ", " + n[4] + ")";
            refused(told, RefusalsTest::rowsToCopy, x -> x.copy(n[0], n[1], n[2], n[3], n[4]), answer, finding);
        }
    }

    private static void copyRefusals() {
        outside("copy(_, 0, 0, 0, 1)", 0, 3, (x, s) -> x.copy(s, 0, 0, 0, 1), BAD);
        outside("copy(0, 0, _, 0, 1)", 0, 3, (x, t) -> x.copy(0, 0, t, 0, 1), BAD);
        // BAD ahead of NULL, NULL ahead of STORE and INDEX, STORE ahead of INDEX
        copyRefused(BAD, 0, new int[][] {{4, 0, 3, 0, 1}, {3, 0, 4, 0, 1}, {-1, 0, 3, 0, 1}, {3, 0, -1, 0, 1}});
        copyRefused(NULL, 1, new int[][] {{0, 0, 3, 0, 1}, {3, 0, 0, 0, 1}, {3, 0, 3, 0, 0}, {0, -1, 3, 0, 1}, {3, 0, 2, 0, -1}});
        copyRefused(STORE, 4, new int[][] {{0, 0, 2, 0, 1}, {2, 0, 0, 0, 1}, {0, 0, 2, 0, 0}, {0, -1, 2, 0, 1}, {2, 0, 1, 9, 1}});
        copyRefused(INDEX, 2, new int[][] {
            {0, -1, 1, 0, 1}, {0, 0, 1, -1, 1}, {0, 0, 1, 0, -1}, {0, LEAST_INT, 1, 0, 1}, {0, 0, 1, LEAST_INT, 1},
            {0, 0, 1, 0, LEAST_INT}, {0, -1, 1, 0, 0}, {0, 0, 1, -1, 0}, {0, 3, 1, 0, 3}, {1, 0, 0, 0, 4},
            {0, 0, 1, 0, 4}, {0, 0, 1, 1, 3}, {1, 0, 0, 3, 3}, {0, 6, 1, 0, 0}, {0, 0, 1, 4, 0}, {0, 0, 0, 6, 0},
            {0, 1, 1, 0, MOST_INT}, {0, MOST_INT, 1, 0, 1}, {0, 0, 1, MOST_INT, 1}, {0, MOST_INT, 1, 0, MOST_INT},
            {0, MOST_INT, 1, 0, 0}, {0, 5, 1, 0, 1}, {0, 0, 1, 3, 1}, {0, 6, 1, 0, -1}, {0, 0, 0, 1, 5}});
    }

    private static void countRefusals() {
        outside("count(_)", 0, 8, (x, what) -> x.count(what), BAD);
    }
}
