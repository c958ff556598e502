import java.math.BigInteger;

/**
 * The sentences that bound SHEETS, FORMS and FINDINGS, and promises 26 to 33. Each has a test of
 * its own.
 */
public final class SheetBoundsTest {
    private static final int BAD = Scene.BAD, NONE = Scene.NONE, NOT = Scene.NOT;
    private static final int NULL = Scene.NULL, INDEX = Scene.INDEX, CAST = Scene.CAST, STORE = Scene.STORE, SIZE = Scene.SIZE;
    private static final int LEAST_INT = Scene.LEAST_INT, MOST_INT = Scene.MOST_INT;
    private static final long LONG_BAD = Scene.LONG_BAD, LONG_NOT = Scene.LONG_NOT;
    private static final Due due = new Due("SheetBoundsTest");

    public static void main(String[] args) {
        fourSheets();
        threeForms();
        noItemToSixty();
        itemsAreZeroAtFirst();
        belowNone();
        lostAgain();
        bytesAreCut();
        shortsAreCut();
        intsAreNotCut();
        laidWithinTheItems();
        layOfAnEmptyOne();
        gotWithinTheItems();
        gotTheLeastInt();
        copiedFromTheFirstToTheLast();
        copiedWithinOne();
        copiedNone();
        copiedTooFar();
        copiedOfOneForm();
        writtenAsManyAsItems();
        writtenAsManyAsFit();
        writtenToEachForm();
        latestFinding();
        findingsOfEachNumber();
        countsOfTheEmpty();
        countsOfTheFull();
        countBounds();
        digestOfTheEmpty();
        digestOfNoneThatFits();
        digestOfOneName();
        digestOfTheFull();
        digestBehindNights();
        digestOfUnlikeAnswers();
        digestSpunNinetyNine();
        digestWraps();
        due.end();
    }

    private static void items(NamedDwarf x, int s, int form, int... want) {
        for (int i = 0; i < want.length; i++) {
            due.answer("get(" + s + ", " + form + ", " + i + ")", x.get(s, form, i), want[i]);
        }
        due.answer("get behind the last of " + s, x.get(s, form, want.length), LEAST_INT);
        due.answer("which is an INDEX", x.count(8), 2);
    }

    /** "SHEETS 0 .. 3 are LOST (at first)" */
    private static void fourSheets() {
        NamedDwarf x = new NamedDwarf();
        for (int s = 0; s < 4; s++) {
            due.answer("LOST at first", x.lose(s), NULL);
            due.answer("a new row", x.sheet(s, 0, s + 1), s + 1);
        }
        for (int s = 0; s < 4; s++) {
            due.answer("each of its own", x.lose(s), s + 1);
        }
        due.answer("sheet(-1, 0, 1)", x.sheet(-1, 0, 1), BAD);
        due.answer("sheet(4, 0, 1)", x.sheet(4, 0, 1), BAD);
        due.answer("lose(-1)", x.lose(-1), BAD);
        due.answer("lose(4)", x.lose(4), BAD);
    }

    /** "a row of a FORM: 0 bytes, 1 shorts, 2 ints" */
    private static void threeForms() {
        NamedDwarf x = new NamedDwarf();
        for (int form = 0; form < 3; form++) {
            due.answer("sheet(0, " + form + ", 1)", x.sheet(0, form, 1), 1);
            for (int as = 0; as < 3; as++) {
                due.answer("laid as " + as, x.lay(0, as, 0, 7), as == form ? 1 : CAST);
                due.answer("got as " + as, x.get(0, as, 0), as == form ? 7 : LEAST_INT);
            }
        }
        due.answer("FORM -1", x.sheet(0, -1, 1), BAD);
        due.answer("FORM 3", x.sheet(0, 3, 1), BAD);
        due.answer("it is as it was", x.get(0, 2, 0), 7);
    }

    /** "of 0 to 60 items"; "BAD: ... above 60" */
    private static void noItemToSixty() {
        NamedDwarf x = new NamedDwarf();
        due.answer("none", x.sheet(0, 0, 0), 0);
        due.answer("no item 0", x.lay(0, 0, 0, 1), INDEX);
        due.answer("one", x.sheet(0, 0, 1), 1);
        due.answer("item 0", x.lay(0, 0, 0, 1), 1);
        due.answer("no item 1", x.lay(0, 0, 1, 1), INDEX);
        due.answer("sixty", x.sheet(0, 0, 60), 60);
        due.answer("item 59", x.lay(0, 0, 59, 1), 1);
        due.answer("no item 60", x.lay(0, 0, 60, 1), INDEX);
        due.answer("sixty-one", x.sheet(0, 0, 61), BAD);
        due.answer("most", x.sheet(0, 0, MOST_INT), BAD);
        due.answer("there are sixty still", x.get(0, 0, 59), 1);
        due.answer("there are sixty still", x.lose(0), 60);
    }

    /** "(0 at first)"; "A SHEET is a new row" */
    private static void itemsAreZeroAtFirst() {
        NamedDwarf x = new NamedDwarf();
        Scene.lay(x, 0, 2, 5, 6, 7);
        x.sheet(0, 2, 3);
        items(x, 0, 2, 0, 0, 0);
        x.lay(0, 2, 2, 9);
        x.sheet(0, 2, 1);
        x.sheet(0, 2, 3);
        items(x, 0, 2, 0, 0, 0);
        x.lay(0, 2, 1, 9);
        x.lose(0);
        x.sheet(0, 1, 3);
        items(x, 0, 1, 0, 0, 0);
        x.sheet(1, 2, 60);
        for (int i = 0; i < 60; i++) {
            due.answer("item " + i, x.get(1, 2, i), 0);
        }
    }

    /** "5 SIZE: below 0": a SHEET of -1 items. */
    private static void belowNone() {
        NamedDwarf x = new NamedDwarf();
        Scene.lay(x, 0, 1, 5, 6);
        due.answer("sheet(0, 0, -1)", x.sheet(0, 0, -1), SIZE);
        due.answer("count(8)", x.count(8), 5);
        due.answer("sheet(0, 0, least)", x.sheet(0, 0, LEAST_INT), SIZE);
        due.answer("sheet(1, 0, -1)", x.sheet(1, 0, -1), SIZE);
        items(x, 0, 1, 5, 6);
        due.answer("a LOST one stays LOST", x.lose(1), NULL);
        due.answer("FORM 3 ahead of it", x.sheet(0, 3, -1), BAD);
        due.answer("SHEET 4 ahead of it", x.sheet(4, 0, -1), BAD);
    }

    /** "It is LOST: how many items it had. BAD; NULL." */
    private static void lostAgain() {
        NamedDwarf x = new NamedDwarf();
        for (int n : new int[] {0, 1, 60}) {
            x.sheet(2, 1, n);
            due.answer("lose of " + n, x.lose(2), n);
            due.answer("lose of a LOST one", x.lose(2), NULL);
            due.answer("lay", x.lay(2, 1, 0, 1), NULL);
            due.answer("get", x.get(2, 1, 0), LEAST_INT);
            due.answer("which is a NULL", x.count(8), 1);
            due.answer("read", x.read(2), NULL);
            due.answer("write", x.write(2), NULL);
            due.answer("copy", x.copy(2, 0, 2, 0, 0), NULL);
        }
    }

    /** "becomes v (the lowest bits that it has, with its sign)", of a byte: 8 bits. */
    private static void bytesAreCut() {
        NamedDwarf x = new NamedDwarf();
        Scene.lay(x, 0, 0, 127, 128, 255, 256, 257, -1, -128, -129, -256, MOST_INT, LEAST_INT, 0, 65535, 32768);
        items(x, 0, 0, 127, -128, -1, 0, 1, -1, -128, 127, 0, -1, 0, 0, -1, 0);
    }

    /** The same, of a short: 16 bits. */
    private static void shortsAreCut() {
        NamedDwarf x = new NamedDwarf();
        Scene.lay(x, 0, 1, 32767, 32768, 65535, 65536, 65537, -1, -32768, -32769, -65536, MOST_INT, LEAST_INT, 128, -129, 256);
        items(x, 0, 1, 32767, -32768, -1, 0, 1, -1, -32768, 32767, 0, -1, 0, 128, -129, 256);
    }

    /** The same, of an int: all 32 bits. */
    private static void intsAreNotCut() {
        NamedDwarf x = new NamedDwarf();
        Scene.lay(x, 0, 2, MOST_INT, -MOST_INT, 65536, -65537, 32768, 128, -1, 0);
        items(x, 0, 2, MOST_INT, -MOST_INT, 65536, -65537, 32768, 128, -1, 0);
    }

    /** "2 INDEX: there is no such item", of lay() */
    private static void laidWithinTheItems() {
        NamedDwarf x = new NamedDwarf();
        Scene.lay(x, 0, 1, 1, 2, 3);
        due.answer("lay at -1", x.lay(0, 1, -1, 9), INDEX);
        due.answer("lay at 0", x.lay(0, 1, 0, 9), 1);
        due.answer("lay at 2", x.lay(0, 1, 2, 8), 1);
        due.answer("lay at 3", x.lay(0, 1, 3, 9), INDEX);
        due.answer("lay at most", x.lay(0, 1, MOST_INT, 9), INDEX);
        due.answer("lay at least", x.lay(0, 1, LEAST_INT, 9), INDEX);
        items(x, 0, 1, 9, 2, 8);
        x.sheet(0, 1, 4);
        items(x, 0, 1, 0, 0, 0, 0);
    }

    /** The same, of a row without items. */
    private static void layOfAnEmptyOne() {
        NamedDwarf x = new NamedDwarf();
        x.sheet(3, 2, 0);
        due.answer("lay at 0", x.lay(3, 2, 0, 9), INDEX);
        due.answer("lay at -1", x.lay(3, 2, -1, 9), INDEX);
        due.answer("lay as of another FORM", x.lay(3, 1, 0, 9), CAST);
        due.answer("get at 0", x.get(3, 2, 0), LEAST_INT);
        due.answer("count(8)", x.count(8), 2);
    }

    /** "Item i of it. BAD: the least int; so are NULL, CAST, INDEX (count() 8 tells)." */
    private static void gotWithinTheItems() {
        NamedDwarf x = new NamedDwarf();
        Scene.lay(x, 1, 0, 1, 2, 3);
        due.answer("get(4, ..)", x.get(4, 0, 0), LEAST_INT);
        due.answer("get(-1, ..)", x.get(-1, 0, 0), LEAST_INT);
        due.answer("get, FORM 3", x.get(1, 3, 0), LEAST_INT);
        due.answer("get, FORM -1", x.get(1, -1, 0), LEAST_INT);
        due.answer("BAD is no FINDING", x.count(8), 0);
        due.answer("get at 0", x.get(1, 0, 0), 1);
        due.answer("get at 2", x.get(1, 0, 2), 3);
        due.answer("no FINDING", x.count(8), 0);
        due.answer("get at 3", x.get(1, 0, 3), LEAST_INT);
        due.answer("INDEX", x.count(8), 2);
        due.answer("get as of another FORM", x.get(1, 1, 0), LEAST_INT);
        due.answer("CAST", x.count(8), 3);
        due.answer("get at -1", x.get(1, 0, -1), LEAST_INT);
        due.answer("INDEX", x.count(8), 2);
        due.answer("get of a LOST one", x.get(0, 0, 0), LEAST_INT);
        due.answer("NULL", x.count(8), 1);
    }

    /** An item may be the least int, too: then there is no FINDING. */
    private static void gotTheLeastInt() {
        NamedDwarf x = new NamedDwarf();
        Scene.lay(x, 0, 2, LEAST_INT);
        due.answer("get", x.get(0, 2, 0), LEAST_INT);
        due.answer("no FINDING", x.count(8), 0);
    }

    /** "n items of SHEET s, from i on, come to SHEET t, from j on: 1." */
    private static void copiedFromTheFirstToTheLast() {
        NamedDwarf x = new NamedDwarf();
        Scene.lay(x, 0, 1, 1, 2, 3, 4);
        Scene.lay(x, 1, 1, 5, 6, 7);
        due.answer("copy of one, the last to the first", x.copy(0, 3, 1, 0, 1), 1);
        items(x, 1, 1, 4, 6, 7);
        due.answer("copy of one, the first to the last", x.copy(0, 0, 1, 2, 1), 1);
        items(x, 1, 1, 4, 6, 1);
        due.answer("copy of all that come", x.copy(0, 1, 1, 0, 3), 1);
        items(x, 1, 1, 2, 3, 4);
        due.answer("copy of all that are", x.copy(1, 0, 0, 1, 3), 1);
        items(x, 0, 1, 1, 2, 3, 4);
        due.answer("no FINDING but those of items()", x.count(8), 2);
        x.sheet(2, 0, 60);
        x.sheet(3, 0, 60);
        x.lay(2, 0, 59, 9);
        due.answer("copy of sixty", x.copy(2, 0, 3, 0, 60), 1);
        due.answer("the sixtieth", x.get(3, 0, 59), 9);
    }

    /** "(perhaps s, as they were)" */
    private static void copiedWithinOne() {
        NamedDwarf x = new NamedDwarf();
        Scene.lay(x, 0, 2, 1, 2, 3, 4, 5);
        due.answer("copy upwards", x.copy(0, 0, 0, 1, 4), 1);
        items(x, 0, 2, 1, 1, 2, 3, 4);
        Scene.lay(x, 0, 2, 1, 2, 3, 4, 5);
        due.answer("copy downwards", x.copy(0, 1, 0, 0, 4), 1);
        items(x, 0, 2, 2, 3, 4, 5, 5);
        due.answer("copy to itself", x.copy(0, 0, 0, 0, 5), 1);
        items(x, 0, 2, 2, 3, 4, 5, 5);
        due.answer("copy of one too many", x.copy(0, 0, 0, 1, 5), INDEX);
        items(x, 0, 2, 2, 3, 4, 5, 5);
    }

    /** "(with n 0, too, if i or j is above how many there are)" */
    private static void copiedNone() {
        NamedDwarf x = new NamedDwarf();
        Scene.lay(x, 0, 0, 1, 2, 3);
        Scene.lay(x, 1, 0, 4, 5);
        due.answer("at the ends", x.copy(0, 3, 1, 2, 0), 1);
        due.answer("at the starts", x.copy(0, 0, 1, 0, 0), 1);
        due.answer("no FINDING", x.count(8), 0);
        due.answer("i above", x.copy(0, 4, 1, 2, 0), INDEX);
        due.answer("j above", x.copy(0, 3, 1, 3, 0), INDEX);
        due.answer("i below", x.copy(0, -1, 1, 0, 0), INDEX);
        due.answer("j below", x.copy(0, 0, 1, -1, 0), INDEX);
        due.answer("i far above", x.copy(0, MOST_INT, 1, 0, 0), INDEX);
        due.answer("j far above", x.copy(0, 0, 1, MOST_INT, 0), INDEX);
        x.sheet(2, 0, 0);
        due.answer("of an empty one", x.copy(2, 0, 0, 3, 0), 1);
        due.answer("to an empty one", x.copy(0, 3, 2, 0, 0), 1);
        due.answer("one to an empty one", x.copy(0, 0, 2, 0, 1), INDEX);
        due.answer("one of an empty one", x.copy(2, 0, 0, 0, 1), INDEX);
        items(x, 0, 0, 1, 2, 3);
        items(x, 1, 0, 4, 5);
    }

    /** "INDEX: below 0, not so many" */
    private static void copiedTooFar() {
        NamedDwarf x = new NamedDwarf();
        Scene.lay(x, 0, 0, 1, 2, 3, 4);
        Scene.lay(x, 1, 0, 5, 6, 7);
        int[][] refused = {{0, -1, 1, 0, 1}, {0, 0, 1, -1, 1}, {0, 0, 1, 0, -1}, {0, 0, 1, 0, 4}, {0, 2, 1, 0, 3},
            {0, 4, 1, 0, 1}, {0, 0, 1, 3, 1}, {0, 0, 1, 1, 3}, {1, 0, 0, 2, 3}, {1, 0, 0, 0, 4}, {0, 1, 1, 0, MOST_INT},
            {0, MOST_INT, 1, 0, 1}, {0, 0, 1, MOST_INT, 1}, {0, MOST_INT, 1, MOST_INT, MOST_INT}, {0, 0, 1, 0, LEAST_INT},
            {0, LEAST_INT, 1, 0, MOST_INT}, {0, 2, 1, 0, MOST_INT - 1}};
        for (int[] n : refused) {
            String told = "copy(" + n[0] + ", " + n[1] + ", " + n[2] + ", " + n[3] + ", " + n[4] + ")";
            due.answer(told, x.copy(n[0], n[1], n[2], n[3], n[4]), INDEX);
        }
        items(x, 0, 0, 1, 2, 3, 4);
        items(x, 1, 0, 5, 6, 7);
    }

    /** "4 STORE: unlike FORMS" */
    private static void copiedOfOneForm() {
        NamedDwarf x = new NamedDwarf();
        for (int form = 0; form < 3; form++) {
            x.sheet(form, form, 1);
        }
        for (int s = 0; s < 3; s++) {
            for (int t = 0; t < 3; t++) {
                due.answer("copy from " + s + " to " + t, x.copy(s, 0, t, 0, 1), s == t ? 1 : STORE);
                due.answer("copy of none", x.copy(s, 0, t, 0, 0), s == t ? 1 : STORE);
            }
        }
        due.answer("count(8)", x.count(8), 4);
        due.answer("STORE ahead of INDEX", x.copy(0, 5, 1, 5, 5), STORE);
        due.answer("NULL ahead of STORE", x.copy(0, 0, 3, 0, 1), NULL);
        due.answer("NULL ahead of INDEX", x.copy(3, 5, 0, 5, 5), NULL);
        due.answer("BAD ahead of NULL", x.copy(3, 0, 4, 0, 1), BAD);
        due.answer("BAD ahead of NULL", x.copy(4, 0, 3, 0, 1), BAD);
    }

    /** "ROW comes to a SHEET from item 0 on, as many as there are items" */
    private static void writtenAsManyAsItems() {
        NamedDwarf x = Scene.named("1a;3b;2c");
        x.sheet(0, 0, 0);
        due.answer("write to none", x.write(0), 0);
        x.sheet(0, 0, 1);
        due.answer("write to one", x.write(0), 1);
        items(x, 0, 0, 1);
        x.sheet(0, 0, 2);
        due.answer("write to two", x.write(0), 2);
        items(x, 0, 0, 1, 2);
        x.sheet(0, 0, 3);
        due.answer("write to three", x.write(0), 3);
        items(x, 0, 0, 1, 2, 0);
    }

    /** "and NAMES that fit: how many" */
    private static void writtenAsManyAsFit() {
        NamedDwarf x = Scene.dwarf("1a;3b;2c", "-b", "");
        Scene.lay(x, 0, 2, 70, 71, 72);
        due.answer("write of two", x.write(0), 2);
        items(x, 0, 2, 2, 0, 72);
        Scene.put(x, 1, "+d");
        due.answer("write of none", x.write(0), 0);
        items(x, 0, 2, 2, 0, 72);
        NamedDwarf ten = Scene.named(Scene.TEN);
        ten.sheet(3, 1, 60);
        ten.lay(3, 1, 10, 77);
        due.answer("write of ten", ten.write(3), 10);
        due.answer("the tenth", ten.get(3, 1, 9), 9);
        due.answer("behind it", ten.get(3, 1, 10), 77);
        // all of it, also what comes behind the last night
        ten.set(2, 1);
        due.answer("write, NIGHTS aside", ten.write(3), 10);
    }

    /** "(of each the lowest bits that an item has, with its sign)": 0 to 9 are in each FORM as they are. */
    private static void writtenToEachForm() {
        NamedDwarf x = Scene.named("1a;1a;1a;1a;1a;1a;1a;1a;1a;9a");
        for (int form = 0; form < 3; form++) {
            x.sheet(form, form, 10);
            due.answer("write", x.write(form), 10);
            items(x, form, form, 9, 0, 1, 2, 3, 4, 5, 6, 7, 8);
            due.answer("read of it", x.read(form), 10);
            due.answer("named by it", x.named(8, 0), 9);
        }
    }

    /** "8 the number of the latest FINDING (0 before any)" */
    private static void latestFinding() {
        NamedDwarf x = new NamedDwarf();
        due.answer("before any", x.count(8), 0);
        due.answer("BAD", x.lose(4), BAD);
        due.answer("NOT", x.undo(0), NOT);
        due.answer("before any, still", x.count(8), 0);
        due.answer("NULL", x.lose(0), NULL);
        due.answer("1", x.count(8), 1);
        x.sheet(0, 0, 1);
        due.answer("a new row", x.lay(0, 0, 0, 1), 1);
        due.answer("BAD", x.lay(0, 3, 0, 1), BAD);
        due.answer("1, still", x.count(8), 1);
        due.answer("INDEX", x.lay(0, 0, 1, 1), INDEX);
        due.answer("2", x.count(8), 2);
        due.answer("another object's", new NamedDwarf().count(8), 0);
    }

    /** "FINDINGS (answers -10 less the number ...): 1 NULL ... 2 INDEX ... 3 CAST ... 4 STORE ... 5 SIZE" */
    private static void findingsOfEachNumber() {
        NamedDwarf x = new NamedDwarf();
        x.sheet(0, 0, 1);
        x.sheet(1, 1, 1);
        due.answer("NULL", x.lose(2), -11);
        due.answer("1", x.count(8), 1);
        due.answer("INDEX", x.lay(0, 0, 1, 0), -12);
        due.answer("2", x.count(8), 2);
        due.answer("CAST", x.lay(0, 1, 0, 0), -13);
        due.answer("3", x.count(8), 3);
        due.answer("STORE", x.copy(0, 0, 1, 0, 1), -14);
        due.answer("4", x.count(8), 4);
        due.answer("SIZE", x.sheet(0, 0, -1), -15);
        due.answer("5", x.count(8), 5);
    }

    private static void counts(NamedDwarf x, int... want) {
        for (int what = 0; what < want.length; what++) {
            due.answer("count(" + what + ")", x.count(what), want[what]);
        }
    }

    /** "0 NAMES, 1 PIECES, 2 how long THE SONG is, 3 to 5 bytes of texts, 6 GUESSES, 7 how many fit" */
    private static void countsOfTheEmpty() {
        counts(new NamedDwarf(), 0, 0, 0, 0, 0, 0, 0, 0, 0);
        counts(Scene.dwarf("1a", "+b", "."), 1, 1, 1, 2, 2, 1, 0, 0, 0);
        counts(Scene.dwarf("1a;", "+b;", "x"), 0, 0, 0, 3, 3, 1, 0, 0, 0);
    }

    /** The same, of the most that there can be. */
    private static void countsOfTheFull() {
        NamedDwarf x = Scene.dwarf(Scene.LONGEST_TEN, Scene.LONGEST_SIX, "......");
        Scene.guess(x, 0, 0, 0, 0, 0, 0, 0, 0, 0, 0, 0, 0, 0);
        // +aab, +aac are of no name that has +aaa, too
        counts(x, 10, 6, 6, 79, 29, 6, 12, 0, 0);
        Scene.put(x, 1, "+aaa;+a;+a;+a;+a;+a");
        counts(x, 10, 6, 6, 79, 19, 6, 12, 10, 0);
    }

    /** "count: ... BAD." */
    private static void countBounds() {
        NamedDwarf x = new NamedDwarf();
        due.answer("count(-1)", x.count(-1), BAD);
        due.answer("count(9)", x.count(9), BAD);
        due.answer("count(least)", x.count(LEAST_INT), BAD);
        due.answer("count(most)", x.count(MOST_INT), BAD);
    }

    private static void digest(String told, NamedDwarf x, long... answers) {
        long h = 17;
        for (long answer : answers) {
            h = 31 * h + answer;
        }
        due.answer("digest() of " + told, x.digest(), h);
    }

    /** All calls of digest() on a new object. */
    private static void digestOfTheEmpty() {
        digest("a new one", new NamedDwarf(),
                0, 0, 0, 0, 0, 0, 0, 0, NONE, NONE, NONE, 0,
                NONE, NONE, NONE, NONE, NONE, NONE, NONE, NONE, NONE, NONE,
                LONG_NOT, LONG_NOT, 0, 1, NONE, 0, NOT, NOT, 0, NOT, 0, 0, 0, 0, 0, BAD);
    }

    /** "(as it is told)": where none fits there are refusals. */
    private static void digestOfNoneThatFits() {
        digest("none that fits", Scene.dwarf("9f", "-f", ""),
                1, 1, 0, 2, 2, 0, 0, 0, NONE, NONE, NONE, 0,
                1, 9, 5, LONG_NOT, LONG_NOT, 0, NONE, 1124, 0,
                0,
                NONE, NONE, NONE, NONE, NONE, NONE, NONE, NONE, NONE, NONE,
                LONG_NOT, LONG_NOT, 0, 1, NONE, 4, NOT, NOT, 0, NOT, 0, 1, 0, 1, 1, 'f');
    }

    /** One name, and texts at fault. */
    private static void digestOfOneName() {
        NamedDwarf x = Scene.dwarf("2cd", "+", "..;");
        x.guess(1);
        x.guess(0);
        digest("one name", x,
                1, 0, 0, 3, 1, 3, 2, 1, NONE, 1, 2, 1,
                2, 2, 2, 1, 1, 0, 1, 7, 0,
                0, NONE, NONE, NONE, NONE, NONE, NONE, NONE, NONE, NONE,
                1, 1, 1, 1, 0, 4, 0, 1, 1, 1, 1, 1, 1, 0, 0, 'c');
    }

    /** Ten names, six pieces, twelve guesses. */
    private static void digestOfTheFull() {
        NamedDwarf x = Scene.dwarf(Scene.TEN_ALIKE, "+a;+a;-b;-b;-b;-b", ".");
        x.set(1, 0);
        Scene.guess(x, 9, 9, 9, 9, 9, 9, 9, 9, 9, 9, 9, 0);
        long[] all = new long[12 + 10 * 9 + 6 + 10 + 16];
        int at = 0;
        for (long answer : new long[] {10, 6, 1, 29, 17, 1, 12, 10, NONE, NONE, NONE, 1023}) {
            all[at++] = answer;
        }
        for (int name = 0; name < 10; name++) {
            boolean named = name == 9;
            // the twelfth guess comes too late
            long[] told = {1, 9, 0, 1, 10, 0, named ? 0 : NONE, named ? 1 : 1124, name == 0 ? 0 : NONE};
            for (long answer : told) {
                all[at++] = answer;
            }
        }
        for (int piece = 0; piece < 6; piece++) {
            all[at++] = 1023;
        }
        for (int i = 0; i < 10; i++) {
            all[at++] = i;
        }
        // 1 to 512 are 1023, and from night 2 on 4, 8, 16 of three
        for (long answer : new long[] {1023, 10, 1023, 10, 0, 28, 0, 10, 10, 0, 10, 10, 10, 0, 0, 'a'}) {
            all[at++] = answer;
        }
        due.answer("so many answers", at, all.length);
        digest("ten names", x, all);
    }

    /** "wisest(2, 7, 0)" is BAD where NIGHTS is 1, and what all pay where it is 2. */
    private static void digestBehindNights() {
        for (int nights = 1; nights <= 2; nights++) {
            NamedDwarf x = Scene.named("1a");
            x.set(2, nights);
            digest("NIGHTS " + nights, x,
                    1, 0, 0, 2, 0, 0, 0, 1, NONE, NONE, NONE, 1,
                    1, 1, 0, 1, 1, 0, NONE, nights == 1 ? 102 : 104, 0,
                    0, NONE, NONE, NONE, NONE, NONE, NONE, NONE, NONE, NONE,
                    1, 1, 1, 1, 0, nights == 1 ? LONG_BAD : 104, 0, 1, 1, 1, 1, 1, 1, 0, 0, 'a');
        }
    }

    /** The two of shortest() are unlike here, and so are those of pool(); of the names 0 and 1 fit. */
    private static void digestOfUnlikeAnswers() {
        NamedDwarf x = Scene.dwarf("1a;1a;1b", "-c;-b", "");
        Scene.deal(x, 66, 2, 10, 100, 1);
        // 1/2 of 66, and 1/2 of 2 and 132; from night 2 on 1/3 each of 264, of 2 and 528, of 4 and 1056
        digest("two that fit of three", x,
                3, 2, 0, 8, 5, 0, 0, 2, NONE, NONE, NONE, 3,
                1, 1, 0, 1, 2, 4, NONE, 67684, 0,
                1, 1, 0, 1, 2, 4, NONE, 67684, 2,
                1, 1, 1, 0, 1, 3, NONE, 67684, 1,
                7, 3,
                0, 1, NONE, NONE, NONE, NONE, NONE, NONE, NONE, NONE,
                100, 1, 100, 1, 0, 618, 0, 2, 2, 0, 3, 2, 2, 1, 2, 'a');
    }

    /** "spun(99)": 99 is no less than 99 here; it is less than the 100 of the test above. */
    private static void digestSpunNinetyNine() {
        NamedDwarf x = Scene.named("1f");
        x.set(0, 99);
        digest("GOLD 99", x,
                1, 0, 0, 2, 0, 0, 0, 1, NONE, NONE, NONE, 1,
                1, 1, 5, 1, 1, 0, NONE, 101476, 0,
                0, NONE, NONE, NONE, NONE, NONE, NONE, NONE, NONE, NONE,
                99, 1, 99, 1, 0, 396, 0, 1, 1, 1, 1, 1, 1, 0, 0, 'f');
    }

    /** "as longs that wrap": h passes the ends of a long, and the FINDING is no part of it. */
    private static void digestWraps() {
        NamedDwarf x = new NamedDwarf();
        long empty = x.digest();
        x.lose(0);
        due.answer("a FINDING is not told", x.digest(), empty);
        x.sheet(0, 0, 3);
        due.answer("nor a SHEET", x.digest(), empty);
        BigInteger h = BigInteger.valueOf(17);
        long[] answers = {0, 0, 0, 0, 0, 0, 0, 0, -1, -1, -1, 0, -1, -1, -1, -1, -1, -1, -1, -1, -1, -1,
            LONG_NOT, LONG_NOT, 0, 1, -1, 0, -3, -3, 0, -3, 0, 0, 0, 0, 0, -2};
        for (long answer : answers) {
            h = h.multiply(BigInteger.valueOf(31)).add(BigInteger.valueOf(answer));
        }
        due.holds("it is far beyond a long", h.bitLength() > 64);
        due.answer("its lowest 64 bits", empty, h.longValue());
    }
}
