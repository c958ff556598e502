/** Each promise of the document: ordinary calls, the edges that it names, and wrong ones, reckoned by hand. */
public final class PromisesTest {
    private static final int NONE = Scene.NONE, BAD = Scene.BAD, NOT = Scene.NOT, FULL = Scene.FULL;
    private static final long LONG_BAD = Scene.LONG_BAD, LONG_NOT = Scene.LONG_NOT;
    private static final int NULL = Scene.NULL, INDEX = Scene.INDEX, CAST = Scene.CAST, STORE = Scene.STORE, SIZE = Scene.SIZE;
    private static final int LEAST_INT = Scene.LEAST_INT, MOST_INT = Scene.MOST_INT;
    private static final String TEN = Scene.TEN;
    private static final Due due = new Due("PromisesTest");

    public static void main(String[] args) {
        constants();
        newObject();
        typeBytes();
        wipeTexts();
        undoBytes();
        faultsOfNames();
        faultsOfPieces();
        faultsOfSongs();
        faultyTextsAreAsEmpty();
        nameParts();
        setDeal();
        guessNames();
        unguessNames();
        readSheets();
        fitsByAll();
        chances();
        heardByOne();
        offByOne();
        namedByGuesses();
        rows();
        means();
        wisestMeans();
        wisestActs();
        wisestAnew();
        wisestRefusals();
        listenPlaces();
        sureNights();
        spunWorth();
        pools();
        shortestPieces();
        sungSongs();
        changesByOne();
        newSheets();
        loseSheets();
        layItems();
        getItems();
        copyItems();
        writeRows();
        counts();
        digests();
        due.end();
    }

    private static void fault(int text, String bytes, int place) {
        NamedDwarf x = new NamedDwarf();
        Scene.put(x, text, bytes);
        due.answer("fault(" + text + ") of " + bytes, x.fault(text), place);
    }

    private static void fits(String names, String pieces, String song, int bits) {
        NamedDwarf x = Scene.dwarf(names, pieces, song);
        due.answer("fits() of " + names + ", " + pieces + ", " + song, x.fits(), bits);
        due.answer("count(7) of them", x.count(7), Integer.bitCount(bits));
    }

    private static void items(NamedDwarf x, int s, int form, int... want) {
        for (int i = 0; i < want.length; i++) {
            due.answer("get(" + s + ", " + form + ", " + i + ")", x.get(s, form, i), want[i]);
        }
        due.answer("get behind the last of " + s, x.get(s, form, want.length), LEAST_INT);
    }

    private static void fraction(String call, long above, long below, long wantAbove, long wantBelow) {
        due.answer(call + ", above", above, wantAbove);
        due.answer(call + ", below", below, wantBelow);
    }

    private static void constants() {
        due.answer("NONE", NONE, -1);
        due.answer("BAD", BAD, -2);
        due.answer("NOT", NOT, -3);
        due.answer("FULL", FULL, -4);
    }

    private static void newObject() {
        NamedDwarf x = new NamedDwarf();
        for (int what = 0; what <= 8; what++) {
            due.answer("new: count(" + what + ")", x.count(what), 0);
        }
        for (int s = 0; s < 4; s++) {
            due.answer("new: lose(" + s + ")", x.lose(s), NULL);
        }
        int[] deal = {1, 5, 10, 100, 1};
        for (int what = 0; what < deal.length; what++) {
            due.answer("new: set(" + what + ")", x.set(what, 1), deal[what]);
        }
        NamedDwarf other = Scene.dwarf("1a", "", "");
        other.guess(0);
        due.answer("another object's names", new NamedDwarf().count(0), 0);
        due.answer("another object's guesses", new NamedDwarf().count(6), 0);
    }

    private static void typeBytes() {
        int[] limits = {80, 40, 6};
        for (int text = 0; text < 3; text++) {
            NamedDwarf x = new NamedDwarf();
            for (int i = 1; i <= limits[text]; i++) {
                due.answer("type(" + text + ")", x.type(text, i), i);
            }
            due.answer("type, full", x.type(text, 97), FULL);
            due.answer("type, no byte ahead of full", x.type(text, 256), BAD);
            due.answer("bytes of a full one", x.count(3 + text), limits[text]);
        }
        NamedDwarf x = new NamedDwarf();
        due.answer("type(0, 0)", x.type(0, 0), 1);
        due.answer("type(0, 255)", x.type(0, 255), 2);
        due.answer("type(-1, 97)", x.type(-1, 97), BAD);
        due.answer("type(3, 97)", x.type(3, 97), BAD);
        due.answer("type(0, -1)", x.type(0, -1), BAD);
        due.answer("type(0, 256)", x.type(0, 256), BAD);
        due.answer("type(most, least)", x.type(MOST_INT, LEAST_INT), BAD);
        due.answer("bytes", x.count(3), 2);
        x = Scene.dwarf("1a", "", "");
        due.answer("one name", x.fits(), 1);
        x.type(0, ';');
        due.answer("asked with each byte: a fault", x.fits(), 0);
        x.type(0, '2');
        x.type(0, 'b');
        due.answer("asked with each byte: two names", x.fits(), 3);
        x.type(1, '+');
        x.type(1, 'b');
        due.answer("asked with each byte: a piece", x.fits(), 2);
        x.type(2, 'a');
        due.answer("asked with each byte: a song", x.fits(), 0);
    }

    private static void wipeTexts() {
        NamedDwarf x = Scene.dwarf("1a;2b", "+a", "..");
        due.answer("wipe(1)", x.wipe(1), 2);
        due.answer("wipe(0)", x.wipe(0), 5);
        due.answer("wipe(0) again", x.wipe(0), 0);
        due.answer("others stay", x.count(5), 2);
        due.answer("wipe(2)", x.wipe(2), 2);
        due.answer("names are gone", x.count(0), 0);
        due.answer("wipe(-1)", x.wipe(-1), BAD);
        due.answer("wipe(3)", x.wipe(3), BAD);
    }

    private static void undoBytes() {
        NamedDwarf x = Scene.dwarf("1a;2b", "", "");
        due.answer("undo(0)", x.undo(0), 4);
        due.answer("fault behind undo", x.fault(0), 4);
        due.answer("undo(0)", x.undo(0), 3);
        due.answer("undo(0)", x.undo(0), 2);
        due.answer("a name again", x.count(0), 1);
        due.answer("undo(0)", x.undo(0), 1);
        due.answer("undo(0)", x.undo(0), 0);
        due.answer("undo(0), empty", x.undo(0), NOT);
        due.answer("undo(1), empty", x.undo(1), NOT);
        due.answer("undo(-1)", x.undo(-1), BAD);
        due.answer("undo(3)", x.undo(3), BAD);
    }

    private static void faultsOfNames() {
        fault(0, "", NONE);
        fault(0, "1abcdef", NONE);
        fault(0, "9f;1a", NONE);
        fault(0, "0a", 0);
        fault(0, ":a", 0);
        fault(0, "a", 0);
        fault(0, ";", 0);
        fault(0, "1", 1);
        fault(0, "1;", 1);
        fault(0, "11a", 1);
        fault(0, "1g", 1);
        fault(0, "1A", 1);
        fault(0, "1`", 1);
        fault(0, "1a1", 2);
        fault(0, "1a;", 3);
        fault(0, "1a;;", 3);
        fault(0, "1a;2", 4);
        fault(0, "1a;2b;x;y", 6);
        fault(0, "1abcdefa", 7);
        fault(0, "1abcdef;", 8);
        fault(0, "1a\u00ffa", 2);
        fault(0, TEN, NONE);
        fault(0, TEN + ";", TEN.length() + 1);
        fault(0, TEN + ";1a", TEN.length() + 1);
        fault(0, TEN + ";;", TEN.length() + 1);
        fault(0, TEN + "g", TEN.length());
        NamedDwarf x = new NamedDwarf();
        due.answer("fault(-1)", x.fault(-1), BAD);
        due.answer("fault(3)", x.fault(3), BAD);
    }

    private static void faultsOfPieces() {
        fault(1, "", NONE);
        fault(1, "+a", NONE);
        fault(1, "-abc;+f", NONE);
        fault(1, "a", 0);
        fault(1, ",a", 0);
        fault(1, "+", 1);
        fault(1, "+-a", 1);
        fault(1, "+;", 1);
        fault(1, "+a.", 2);
        fault(1, "+a+b", 2);
        fault(1, "+abcd", 4);
        fault(1, "+abc;", 5);
        fault(1, "+a;b", 3);
        fault(1, "+a;+a;+a;+a;+a;-a", NONE);
        fault(1, "+a;+a;+a;+a;+a;-a;", 18);
        fault(1, "+a;+a;+a;+a;+a;-a;+a", 18);
        fault(1, "+a;+a;+a;+a;+a;-a;x", 18);
    }

    private static void faultsOfSongs() {
        fault(2, "", NONE);
        fault(2, ".", NONE);
        fault(2, "abcdef", NONE);
        fault(2, "......", NONE);
        fault(2, "g", 0);
        fault(2, "a;", 1);
        fault(2, ".....A", 5);
        fault(2, "a.1g", 2);
        NamedDwarf x = Scene.dwarf("1ab;1ba", "", "a.");
        due.answer("well", x.fits(), 1);
        x.type(2, 'x');
        due.answer("at fault", x.fault(2), 2);
        due.answer("as empty", x.fits(), 3);
        x.undo(2);
        due.answer("well again", x.fault(2), NONE);
        due.answer("well again", x.fits(), 1);
    }

    private static void faultyTextsAreAsEmpty() {
        NamedDwarf x = Scene.dwarf("1ab;2ba;", "+a", "a.");
        due.answer("faulty names: count(0)", x.count(0), 0);
        due.answer("faulty names: count(3)", x.count(3), 8);
        due.answer("faulty names: fits()", x.fits(), 0);
        due.answer("faulty names: name", x.name(0, 0), BAD);
        x = Scene.dwarf("1ab;2ba", "+ab;", "");
        due.answer("faulty pieces: count(1)", x.count(1), 0);
        due.answer("faulty pieces: count(4)", x.count(4), 4);
        due.answer("faulty pieces: fits()", x.fits(), 3);
        due.answer("faulty pieces: heard", x.heard(0), BAD);
        x = Scene.dwarf("1ab;2ba", "", "a;");
        due.answer("faulty song: count(2)", x.count(2), 0);
        due.answer("faulty song: count(5)", x.count(5), 2);
        due.answer("faulty song: fits()", x.fits(), 3);
    }

    private static void nameParts() {
        NamedDwarf x = Scene.dwarf("3abf;9fedcba", "", "");
        due.answer("ODDS", x.name(0, NONE), 3);
        due.answer("ODDS", x.name(1, NONE), 9);
        due.answer("length", x.name(0, -2), 3);
        due.answer("length", x.name(1, -2), 6);
        int[] first = {0, 1, 5, NONE, NONE, NONE};
        for (int i = 0; i < 6; i++) {
            due.answer("name(0, " + i + ")", x.name(0, i), first[i]);
            due.answer("name(1, " + i + ")", x.name(1, i), 5 - i);
        }
        due.answer("name(2, 0)", x.name(2, 0), BAD);
        due.answer("name(-1, 0)", x.name(-1, 0), BAD);
        due.answer("name(0, 6)", x.name(0, 6), BAD);
        due.answer("name(0, -3)", x.name(0, -3), BAD);
        Scene.put(x, 0, TEN);
        due.answer("name(9, -2)", x.name(9, -2), 2);
        due.answer("name(9, 1)", x.name(9, 1), 3);
        due.answer("name(10, 1)", x.name(10, 1), BAD);
        Scene.put(x, 0, "1a");
        due.answer("a shorter one in its stead", x.name(0, 1), NONE);
    }

    private static void setDeal() {
        int[] was = {1, 5, 10, 100, 1};
        int[] from = {1, 0, 1, 0, 1};
        int[] to = {99, 99, 12, 9999, 3};
        NamedDwarf x = new NamedDwarf();
        for (int what = 0; what < 5; what++) {
            due.answer("set below", x.set(what, from[what] - 1), BAD);
            due.answer("set above", x.set(what, to[what] + 1), BAD);
            due.answer("set the least", x.set(what, from[what]), was[what]);
            due.answer("set the most", x.set(what, to[what]), from[what]);
            due.answer("set again", x.set(what, to[what]), to[what]);
        }
        due.answer("set(-1, 1)", x.set(-1, 1), BAD);
        due.answer("set(5, 1)", x.set(5, 1), BAD);
        due.answer("set(least, most)", x.set(LEAST_INT, MOST_INT), BAD);
    }

    private static void guessNames() {
        NamedDwarf x = new NamedDwarf();
        due.answer("guess(-1)", x.guess(-1), BAD);
        due.answer("guess(10)", x.guess(10), BAD);
        for (int i = 1; i <= 12; i++) {
            due.answer("guess of one that is not there", x.guess(i % 2 == 0 ? 9 : 0), i);
        }
        due.answer("guess, full", x.guess(0), FULL);
        due.answer("guess, bad ahead of full", x.guess(10), BAD);
        due.answer("count(6)", x.count(6), 12);
    }

    private static void unguessNames() {
        NamedDwarf x = Scene.dwarf("1a;1b", "", "");
        due.answer("unguess of none", x.unguess(), NOT);
        x.guess(0);
        x.guess(1);
        due.answer("named by the second", x.named(1, 0), 1);
        due.answer("unguess", x.unguess(), 1);
        due.answer("not named", x.named(1, 0), NONE);
        due.answer("named by the first", x.named(0, 0), 0);
        due.answer("unguess", x.unguess(), 0);
        due.answer("unguess of none", x.unguess(), NOT);
    }

    private static void readSheets() {
        NamedDwarf x = Scene.dwarf("1a;1b", "", "");
        x.guess(5);
        due.answer("read(-1)", x.read(-1), BAD);
        due.answer("read(4)", x.read(4), BAD);
        due.answer("read of a lost one", x.read(0), NULL);
        due.answer("guesses stay", x.count(6), 1);
        due.answer("finding", x.count(8), 1);
        x.sheet(0, 2, 5);
        int[] items = {1, 0, 9, 10, 3};
        for (int i = 0; i < items.length; i++) {
            x.lay(0, 2, i, items[i]);
        }
        due.answer("read to the 10", x.read(0), 3);
        due.answer("the guesses", x.named(0, 0), 1);
        x.lay(0, 2, 0, -1);
        due.answer("read, the first may not be", x.read(0), 0);
        due.answer("those that were are gone", x.count(6), 0);
        x.sheet(1, 0, 60);
        due.answer("read, 12 at most", x.read(1), 12);
        x.sheet(1, 1, 0);
        due.answer("read of an empty one", x.read(1), 0);
        due.answer("guesses are none", x.count(6), 0);
    }

    private static void fitsByAll() {
        String names = "1abc;1bca;1cab;1ab;1abcabc";
        fits(names, "", "", 31);
        fits("", "+a", "...", 0);
        fits(names, "+ab", "", 29);
        fits(names, "-ab", "", 2);
        fits(names, "+abc", "", 17);
        fits(names, "+ca", "", 22);
        fits(names, "+ca;-bc", "", 4);
        fits(names, "+ac", "", 0);
        fits(names, "-d", "", 31);
        fits(names, "+cab", "", 20);
        fits(names, "", "...", 7);
        fits(names, "", "a..", 1);
        fits(names, "", "..", 8);
        fits(names, "", "......", 16);
        fits(names, "", ".....", 0);
        fits(names, "", ".b....", 16);
        fits(names, "+ab", ".a.", 4);
        fits("1aab;1aaab", "+aab", "", 3);
        fits("1ababc", "+abc", "", 1);
        fits("1ab", "+abc", "", 0);
        fits("1ab", "-abc", "", 1);
        fits(TEN, "", "", 1023);
    }

    private static void chances() {
        NamedDwarf x = Scene.dwarf("3a;2b;1ab;4bb", "", "");
        fraction("chance(0)", x.chance(0, 0), x.chance(0, 1), 3, 10);
        fraction("chance(1)", x.chance(1, 0), x.chance(1, 1), 1, 5);
        Scene.put(x, 1, "+a");
        fraction("chance(0) by a", x.chance(0, 0), x.chance(0, 1), 3, 4);
        fraction("chance(1) by a", x.chance(1, 0), x.chance(1, 1), 0, 1);
        Scene.put(x, 1, "+ab");
        fraction("chance(2) alone", x.chance(2, 0), x.chance(2, 1), 1, 1);
        due.answer("chance(4, 0)", x.chance(4, 0), LONG_BAD);
        due.answer("chance(-1, 0)", x.chance(-1, 0), LONG_BAD);
        due.answer("chance(0, 2)", x.chance(0, 2), LONG_BAD);
        due.answer("chance(0, -1)", x.chance(0, -1), LONG_BAD);
        Scene.put(x, 1, "+f");
        due.answer("chance, none fits", x.chance(0, 0), LONG_NOT);
        due.answer("chance, none fits", x.chance(0, 1), LONG_NOT);
        due.answer("chance, bad ahead of none", x.chance(0, 2), LONG_BAD);
    }

    private static void heardByOne() {
        NamedDwarf x = Scene.dwarf("1ab;1ba;1c", "+ab;-ab;+c", "ab");
        due.answer("heard(0)", x.heard(0), 1);
        due.answer("heard(1)", x.heard(1), 6);
        due.answer("heard(2), whatever the song", x.heard(2), 4);
        due.answer("heard(3)", x.heard(3), BAD);
        due.answer("heard(-1)", x.heard(-1), BAD);
        Scene.put(x, 0, "");
        due.answer("heard(1) of no names", x.heard(1), 0);
    }

    private static void offByOne() {
        NamedDwarf x = Scene.dwarf("1abc;1abd;1bbc;1abc;1acd;1ab;1abcd;1bbd", "", "");
        due.answer("off(0)", x.off(0), 2 + 4);
        due.answer("off(1)", x.off(1), 1 + 8 + 16 + 128);
        due.answer("off(3)", x.off(3), 2 + 4);
        due.answer("off(5)", x.off(5), 0);
        due.answer("off(6)", x.off(6), 0);
        due.answer("off(7)", x.off(7), 2 + 4);
        due.answer("off(8)", x.off(8), BAD);
        due.answer("off(-1)", x.off(-1), BAD);
        Scene.put(x, 1, "+f");
        due.answer("off, whatever fits", x.off(0), 6);
    }

    private static void namedByGuesses() {
        NamedDwarf x = Scene.dwarf("1a;1b;1a", "", "");
        due.answer("no guess", x.named(0, 0), NONE);
        due.answer("no guess: 1024 and 100", x.named(0, 1), 1124);
        int[] guesses = {1, 7, 1, 0, 2};
        for (int guess : guesses) {
            x.guess(guess);
        }
        due.answer("named(1), first", x.named(1, 0), 0);
        due.answer("named(1) pays", x.named(1, 1), 1);
        due.answer("named(0), fourth", x.named(0, 0), 3);
        due.answer("named(0) pays 8 and 15", x.named(0, 1), 23);
        due.answer("named(2), told by its number alone", x.named(2, 0), 4);
        x.set(4, 2);
        due.answer("two a night: named(0)", x.named(0, 0), 1);
        due.answer("two a night: pays 2 and 15", x.named(0, 1), 17);
        x.set(2, 2);
        due.answer("two nights: named(2) too late", x.named(2, 0), NONE);
        due.answer("two nights: 4, 100 and 20", x.named(2, 1), 124);
        x.set(4, 3);
        due.answer("three a night: named(2)", x.named(2, 0), 1);
        x.set(0, 7);
        x.set(1, 3);
        due.answer("14 and 12", x.named(2, 1), 26);
        x.set(2, 1);
        due.answer("one night: named(0) too late", x.named(0, 0), NONE);
        x.set(3, 0);
        due.answer("one night: 14 and 9", x.named(0, 1), 23);
        due.answer("named(3, 0)", x.named(3, 0), BAD);
        due.answer("named(-1, 0)", x.named(-1, 0), BAD);
        due.answer("named(0, 2)", x.named(0, 2), BAD);
        due.answer("named(0, -1)", x.named(0, -1), BAD);
    }

    private static void rows() {
        NamedDwarf x = Scene.dwarf("2a;9b;2c;5aa;9ab;1f", "-f", "");
        int[] row = {1, 4, 3, 0, 2, NONE, NONE, NONE, NONE, NONE};
        for (int i = 0; i < row.length; i++) {
            due.answer("row(" + i + ")", x.row(i), row[i]);
        }
        x.set(2, 1);
        due.answer("row, also those too late", x.row(4), 2);
        due.answer("row(10)", x.row(10), BAD);
        due.answer("row(-1)", x.row(-1), BAD);
        Scene.put(x, 0, TEN);
        Scene.put(x, 1, "");
        due.answer("row(9) of ten", x.row(9), 9);
    }

    private static void means() {
        NamedDwarf x = Scene.dwarf("1a;3b;2c", "", "");
        fraction("3 of 1, 2 of 7, 1 of 14", x.mean(0), x.mean(1), 31, 6);
        x.set(4, 3);
        fraction("3 of 1, 2 of 6, 1 of 11", x.mean(0), x.mean(1), 13, 3);
        x.set(4, 1);
        x.set(2, 2);
        fraction("3 of 1, 2 of 7, 1 of 4, 100 and 10", x.mean(0), x.mean(1), 131, 6);
        Scene.put(x, 1, "+b");
        fraction("one alone", x.mean(0), x.mean(1), 1, 1);
        Scene.put(x, 1, "+f");
        due.answer("mean(0), none fits", x.mean(0), LONG_NOT);
        due.answer("mean(1), none fits", x.mean(1), LONG_NOT);
        due.answer("mean(2)", x.mean(2), LONG_BAD);
        due.answer("mean(-1)", x.mean(-1), LONG_BAD);
    }

    private static void wisest(NamedDwarf x, int night, int names, long above, long below, long act) {
        String call = "wisest(" + night + ", " + names + ")";
        fraction(call, x.wisest(night, names, 0), x.wisest(night, names, 1), above, below);
        due.answer(call + ", what to do", x.wisest(night, names, 2), act);
    }

    private static void wisestMeans() {
        NamedDwarf x = Scene.dwarf("1a;3b", "+f", "ffffff");
        // to listen: 2; to guess the likelier: 3/4 of 1 and 1/4 of 5 and 2
        wisest(x, 0, 3, 2, 1, 10);
        wisest(x, 0, 1023, 2, 1, 10);
        wisest(x, 0, 1, 1, 1, 0);
        wisest(x, 3, 2, 8, 1, 1);
        wisest(x, 0, 0, 0, 1, NONE);
        wisest(x, 0, 4, 0, 1, NONE);
        wisest(x, 10, 3, 1124, 1, NONE);
        wisest(x, 10, 0, 0, 1, NONE);
        x.set(1, 0);
        wisest(x, 0, 3, 5, 4, 1);
        x.set(0, 10);
        // 3/4 of 10 and 1/4 of 20
        wisest(x, 0, 3, 25, 2, 1);
        x.set(2, 1);
        // 3/4 of 10 and 1/4 of 20 and 100
        wisest(x, 0, 3, 75, 2, 1);
        x.set(4, 3);
        x.set(3, 0);
        wisest(x, 0, 3, 25, 2, 1);
    }

    private static void wisestActs() {
        NamedDwarf x = Scene.dwarf("1aa;1aa;1ab;1ba", "", "");
        // of two that none can tell apart by listening the least is guessed
        wisest(x, 0, 3, 4, 1, 0);
        // listening at 1, as 0 tells nothing of them
        wisest(x, 0, 5, 2, 1, 11);
        // the place behind the shorter one's end
        x = Scene.dwarf("1ab;1abc", "", "");
        wisest(x, 0, 3, 2, 1, 12);
        // a guess and the listening cost alike: 1/2 of 1 and 1/2 of 1 and 2
        x.set(1, 1);
        wisest(x, 0, 3, 2, 1, 0);
        // a cow is dearer than to be never named: the least place, though it settles nothing
        x.set(1, 99);
        x.set(2, 1);
        x.set(3, 0);
        wisest(x, 0, 3, 2, 1, 10);
        // with two nights he is listened for first
        x.set(2, 2);
        wisest(x, 0, 3, 2, 1, 12);
        wisest(x, 1, 3, 4, 1, 10);
    }

    private static void wisestAnew() {
        NamedDwarf x = Scene.dwarf("1a;3b", "", "");
        wisest(x, 0, 3, 2, 1, 10);
        x.type(0, 'a');
        wisest(x, 0, 3, 2, 1, 10);
        Scene.put(x, 0, "1a;9a");
        // 9/10 of 1 and 1/10 of 5 and 2
        wisest(x, 0, 3, 8, 5, 1);
        x.undo(0);
        wisest(x, 0, 3, 0, 1, NONE);
        x.type(0, 'b');
        wisest(x, 0, 3, 8, 5, 1);
        due.answer("spun of it", x.spun(1), 0);
        x.set(1, 2);
        // 9/10 of 1 and 1/10 of 2 and 2
        wisest(x, 0, 3, 13, 10, 1);
        x.set(0, 2);
        wisest(x, 0, 3, 12, 5, 1);
        x.set(2, 1);
        x.set(3, 9);
        // 9/10 of 2 and 1/10 of 2 and 4 and 9
        wisest(x, 0, 3, 33, 10, 1);
        due.answer("spun of it", x.spun(3), 0);
        due.answer("spun of it", x.spun(4), 1);
        x = Scene.dwarf("9aaaaaa;8aaaaab;7aaaaac;6aaaaad;5aaaaae;4aaaaaf;3aaaaa;2bbbbb;1ccccc;1dddddd", "", "");
        x.set(2, 12);
        // at 5 first: then 33 of 2 by a guess, 21 of the two with d there, 24 of the three shorter ones
        wisest(x, 0, 1023, 111, 46, 15);
        // the last night of the three shorter ones: 3/6 of 2048 and 3/6 of 5 and 4196
        wisest(x, 11, 448, 6249, 2, 6);
    }

    private static void wisestRefusals() {
        NamedDwarf x = Scene.dwarf("1a;3b", "", "");
        due.answer("wisest(-1, 3, 0)", x.wisest(-1, 3, 0), LONG_BAD);
        due.answer("wisest(11, 3, 0)", x.wisest(11, 3, 0), LONG_BAD);
        due.answer("wisest(0, -1, 0)", x.wisest(0, -1, 0), LONG_BAD);
        due.answer("wisest(0, 1024, 0)", x.wisest(0, 1024, 0), LONG_BAD);
        due.answer("wisest(0, 3, -1)", x.wisest(0, 3, -1), LONG_BAD);
        due.answer("wisest(0, 3, 3)", x.wisest(0, 3, 3), LONG_BAD);
        x.set(2, 12);
        due.answer("wisest(12, 3, 0)", x.wisest(12, 3, 0), 4196);
        due.answer("wisest(13, 3, 0)", x.wisest(13, 3, 0), LONG_BAD);
        x.set(2, 1);
        due.answer("wisest(2, 3, 0)", x.wisest(2, 3, 0), LONG_BAD);
    }

    private static void listenPlaces() {
        NamedDwarf x = Scene.dwarf("1aab;1abb;1aca;1aba", "", "");
        due.answer("listen(0): of 1 and 2 two at worst, the least", x.listen(0), 1);
        due.answer("listen(1)", x.listen(1), 2);
        Scene.put(x, 1, "-ab");
        due.answer("listen(0) of the third alone", x.listen(0), 0);
        due.answer("listen(1) of the third alone", x.listen(1), 1);
        Scene.put(x, 1, "");
        Scene.put(x, 0, "1a;1ab;1abc");
        due.answer("listen(0): behind the shortest", x.listen(0), 1);
        due.answer("listen(1): two of b", x.listen(1), 2);
        Scene.put(x, 1, "+b");
        due.answer("listen(0) of the longer two", x.listen(0), 2);
        due.answer("listen(2)", x.listen(2), BAD);
        due.answer("listen(-1)", x.listen(-1), BAD);
        Scene.put(x, 1, "+f");
        due.answer("listen(0), none fits", x.listen(0), NOT);
        due.answer("listen(1), none fits", x.listen(1), NOT);
        due.answer("listen(2), none fits", x.listen(2), BAD);
    }

    private static void sure(String names, String pieces, int nights) {
        due.answer("sure() of " + names + ", " + pieces, Scene.dwarf(names, pieces, "").sure(), nights);
    }

    private static void sureNights() {
        sure("", "", 0);
        sure("1a", "", 1);
        sure("1a;9b", "", 2);
        sure("1a;1a;1a;1a", "", 4);
        sure("1a;1b;1c;1d;1e;1f", "", 2);
        sure("1a;1b;1c;1d;1e;1f", "-a;-b;-c;-d;-e", 1);
        sure("1a;1b", "+f", 0);
        sure("1a;1b;1c;1d;1e;1f;1aa;1bb;1cc;1dd", "", 3);
        sure("1a;1a;1a;1b;1c", "", 4);
        sure("1a;1a;1a;1a;1a;1a;1a;1a;1a;1a", "", 10);
        sure("1aaaaaa;1aaaaab;1aaaabb;1aaabbb;1aabbbb;1abbbbb;1bbbbbb", "", 4);
        NamedDwarf x = Scene.dwarf("1a;1a;1a;1a", "", "");
        x.set(2, 1);
        due.answer("sure, NIGHTS aside", x.sure(), 4);
        due.answer("sure, as it was", x.sure(), 4);
        Scene.put(x, 0, "1a;1b;1c;1d");
        due.answer("sure of other names", x.sure(), 2);
        Scene.put(x, 1, "-a");
        Scene.put(x, 0, "1a;1a;1a;1b;1b");
        due.answer("sure of two of b", x.sure(), 2);
        x.wipe(1);
        due.answer("sure of all", x.sure(), 4);
        Scene.put(x, 1, "+b");
        due.answer("sure of two of b again", x.sure(), 2);
    }

    private static void spunWorth() {
        NamedDwarf x = Scene.dwarf("1a;3b;1ab", "", ".");
        due.answer("spun(2): just so much", x.spun(2), 1);
        due.answer("spun(1)", x.spun(1), 0);
        due.answer("spun(0)", x.spun(0), 0);
        due.answer("spun(99999)", x.spun(99999), 1);
        x.set(1, 0);
        // 5/4
        due.answer("spun(1) of 5/4", x.spun(1), 0);
        due.answer("spun(2) of 5/4", x.spun(2), 1);
        due.answer("spun(-1)", x.spun(-1), BAD);
        due.answer("spun(100000)", x.spun(100000), BAD);
        Scene.put(x, 2, "f");
        due.answer("spun, none fits", x.spun(9), NOT);
        due.answer("spun, bad ahead of none", x.spun(100000), BAD);
        Scene.put(x, 2, ".");
        x.set(0, 99);
        due.answer("spun of another deal", x.spun(2), 0);
    }

    private static void pools() {
        NamedDwarf x = Scene.dwarf("1ab;1ba;1ac;1c", "+a;+ab;-c", "");
        due.answer("pool(1, 4, 0)", x.pool(1, 4, 0), 3);
        due.answer("pool(1, 4, 1)", x.pool(1, 4, 1), 2);
        due.answer("pool(3, 4, 0)", x.pool(3, 4, 0), 1);
        due.answer("pool(1, 2, 2)", x.pool(1, 2, 2), 1);
        due.answer("pool(1, 4, 2)", x.pool(1, 4, 2), 2);
        due.answer("pool(0, 0, 0)", x.pool(0, 0, 0), 4);
        due.answer("pool(0, 56, 1): pieces that are not there", x.pool(0, 56, 1), 4);
        due.answer("pool(63, 1, 0)", x.pool(63, 1, 0), 1);
        due.answer("pool(1, 63, 2)", x.pool(1, 63, 2), 1);
        Scene.put(x, 2, ".");
        due.answer("pool(0, 0, 2) by the song", x.pool(0, 0, 2), 1);
        due.answer("pool(-1, 0, 0)", x.pool(-1, 0, 0), BAD);
        due.answer("pool(64, 0, 0)", x.pool(64, 0, 0), BAD);
        due.answer("pool(0, -1, 0)", x.pool(0, -1, 0), BAD);
        due.answer("pool(0, 64, 0)", x.pool(0, 64, 0), BAD);
        due.answer("pool(0, 0, -1)", x.pool(0, 0, -1), BAD);
        due.answer("pool(0, 0, 3)", x.pool(0, 0, 3), BAD);
    }

    private static void shortestPieces() {
        NamedDwarf x = Scene.dwarf("1ab;1ba;1ac;1c", "+a;+ab;-c", "");
        due.answer("shortest(0)", x.shortest(0), 1);
        due.answer("shortest(1)", x.shortest(1), 2);
        Scene.put(x, 1, "+a;-c;+b");
        due.answer("shortest(1): of 2 and 4 the least", x.shortest(1), 2);
        Scene.put(x, 1, "+a;+b;-ba");
        due.answer("shortest(0): two", x.shortest(0), 2);
        due.answer("shortest(1): b, not ba", x.shortest(1), 6);
        Scene.put(x, 2, "..");
        Scene.put(x, 1, "+a");
        due.answer("shortest(0), the song does it", x.shortest(0), 0);
        due.answer("shortest(1), the song does it", x.shortest(1), 0);
        Scene.put(x, 2, "");
        Scene.put(x, 1, "-d;-d;-d;-d;-d;+ba");
        due.answer("shortest(1), the sixth", x.shortest(1), 32);
        due.answer("shortest(2)", x.shortest(2), BAD);
        due.answer("shortest(-1)", x.shortest(-1), BAD);
    }

    private static void sungSongs() {
        NamedDwarf x = Scene.dwarf("1abc;1abd;1acc;1ab;1fbcdef", "+f", "f");
        due.answer("sung(3, 0)", x.sung(3, 0), 'a');
        due.answer("sung(3, 1)", x.sung(3, 1), 'b');
        due.answer("sung(3, 2)", x.sung(3, 2), '.');
        due.answer("sung(3, 3), beyond", x.sung(3, 3), NONE);
        due.answer("sung(5, 1)", x.sung(5, 1), '.');
        due.answer("sung(5, 2)", x.sung(5, 2), 'c');
        due.answer("sung(9, 0), unlike long", x.sung(9, 0), NONE);
        due.answer("sung(16, 5)", x.sung(16, 5), 'f');
        due.answer("sung(993, 0), those that there are", x.sung(993, 0), 'a');
        due.answer("sung(0, 0)", x.sung(0, 0), BAD);
        due.answer("sung(32, 0), none that there is", x.sung(32, 0), BAD);
        due.answer("sung(-1, 0)", x.sung(-1, 0), BAD);
        due.answer("sung(1024, 0)", x.sung(1024, 0), BAD);
        due.answer("sung(1, -1)", x.sung(1, -1), BAD);
        due.answer("sung(1, 6)", x.sung(1, 6), BAD);
    }

    private static void changesByOne() {
        NamedDwarf x = Scene.dwarf("1aa;1ab;1bb;1aa;1cc;1bc;1abb", "+f", "f");
        due.answer("changes(0, 0)", x.changes(0, 0), 0);
        due.answer("changes(0, 1)", x.changes(0, 1), 1);
        due.answer("changes(0, 2)", x.changes(0, 2), 2);
        due.answer("changes(0, 3), of the same letters", x.changes(0, 3), 2);
        due.answer("changes(0, 4)", x.changes(0, 4), 4);
        due.answer("changes(4, 0)", x.changes(4, 0), 4);
        due.answer("changes(0, 6), a longer one", x.changes(0, 6), NONE);
        due.answer("changes(0, 7)", x.changes(0, 7), BAD);
        due.answer("changes(7, 7)", x.changes(7, 7), BAD);
        due.answer("changes(-1, 0)", x.changes(-1, 0), BAD);
        Scene.put(x, 0, "1aa;1aa");
        due.answer("changes(0, 1), by way of others alone", x.changes(0, 1), NONE);
        Scene.put(x, 0, "1aaa;1baa;1bba;1bbb;1cbb;1ccb;1ccc;1dcc;1ddc;1ddd");
        due.answer("changes(0, 9)", x.changes(0, 9), 9);
    }

    private static void newSheets() {
        NamedDwarf x = new NamedDwarf();
        due.answer("sheet(0, 0, 0)", x.sheet(0, 0, 0), 0);
        due.answer("sheet(3, 2, 60)", x.sheet(3, 2, 60), 60);
        x.lay(3, 2, 59, 7);
        due.answer("sheet(3, 2, 61)", x.sheet(3, 2, 61), BAD);
        due.answer("sheet(4, 0, 1)", x.sheet(4, 0, 1), BAD);
        due.answer("sheet(-1, 0, 1)", x.sheet(-1, 0, 1), BAD);
        due.answer("sheet(0, 3, 1)", x.sheet(0, 3, 1), BAD);
        due.answer("sheet(0, -1, -1), bad ahead of SIZE", x.sheet(0, -1, -1), BAD);
        due.answer("no finding yet", x.count(8), 0);
        due.answer("sheet(3, 2, -1)", x.sheet(3, 2, -1), SIZE);
        due.answer("sheet(3, 2, least)", x.sheet(3, 2, LEAST_INT), SIZE);
        due.answer("finding 5", x.count(8), 5);
        due.answer("it is as it was", x.get(3, 2, 59), 7);
        due.answer("sheet(3, 1, 60), a new one", x.sheet(3, 1, 60), 60);
        due.answer("its items are 0", x.get(3, 1, 59), 0);
    }

    private static void loseSheets() {
        NamedDwarf x = new NamedDwarf();
        x.sheet(1, 1, 9);
        due.answer("lose(1)", x.lose(1), 9);
        due.answer("lose(1) again", x.lose(1), NULL);
        due.answer("finding 1", x.count(8), 1);
        due.answer("get of a lost one", x.get(1, 1, 0), LEAST_INT);
        x.sheet(1, 1, 0);
        due.answer("lose of an empty one", x.lose(1), 0);
        due.answer("lose(-1)", x.lose(-1), BAD);
        due.answer("lose(4)", x.lose(4), BAD);
    }

    private static void layItems() {
        NamedDwarf x = new NamedDwarf();
        due.answer("lay on a lost one, a wrong form", x.lay(0, 3, 0, 1), BAD);
        due.answer("lay on a lost one", x.lay(0, 0, 0, 1), NULL);
        x.sheet(0, 0, 3);
        x.sheet(1, 1, 3);
        x.sheet(2, 2, 3);
        due.answer("lay a byte", x.lay(0, 0, 0, 384), 1);
        due.answer("lay a byte", x.lay(0, 0, 1, -129), 1);
        items(x, 0, 0, -128, 127, 0);
        due.answer("lay a short", x.lay(1, 1, 2, 98304), 1);
        due.answer("lay a short", x.lay(1, 1, 0, 65535), 1);
        items(x, 1, 1, -1, 0, -32768);
        due.answer("lay an int", x.lay(2, 2, 0, LEAST_INT), 1);
        items(x, 2, 2, LEAST_INT, 0, 0);
        due.answer("lay(4, ..)", x.lay(4, 0, 0, 0), BAD);
        due.answer("lay(-1, ..)", x.lay(-1, 0, 0, 0), BAD);
        due.answer("lay, form -1", x.lay(0, -1, 0, 0), BAD);
        due.answer("lay, CAST ahead of INDEX", x.lay(0, 1, 9, 0), CAST);
        due.answer("finding 3", x.count(8), 3);
        due.answer("lay, INDEX", x.lay(0, 0, 3, 0), INDEX);
        due.answer("finding 2", x.count(8), 2);
        due.answer("lay, INDEX below", x.lay(0, 0, -1, 0), INDEX);
        due.answer("lay, INDEX most", x.lay(0, 0, MOST_INT, 0), INDEX);
    }

    private static void getItems() {
        NamedDwarf x = new NamedDwarf();
        due.answer("get(4, 0, 0)", x.get(4, 0, 0), LEAST_INT);
        due.answer("get(-1, 0, 0)", x.get(-1, 0, 0), LEAST_INT);
        due.answer("get(0, 3, 0)", x.get(0, 3, 0), LEAST_INT);
        due.answer("no finding", x.count(8), 0);
        due.answer("get of a lost one", x.get(0, 0, 0), LEAST_INT);
        due.answer("finding 1", x.count(8), 1);
        x.sheet(0, 1, 2);
        x.lay(0, 1, 1, -5);
        due.answer("get", x.get(0, 1, 1), -5);
        due.answer("a get changes no finding", x.count(8), 1);
        due.answer("get of another form", x.get(0, 2, 5), LEAST_INT);
        due.answer("finding 3", x.count(8), 3);
        due.answer("get behind", x.get(0, 1, 2), LEAST_INT);
        due.answer("finding 2", x.count(8), 2);
        due.answer("get below", x.get(0, 1, -1), LEAST_INT);
    }

    private static NamedDwarf twoSheets() {
        NamedDwarf x = new NamedDwarf();
        x.sheet(0, 2, 5);
        x.sheet(1, 2, 3);
        for (int i = 0; i < 5; i++) {
            x.lay(0, 2, i, i + 1);
        }
        return x;
    }

    private static void copyItems() {
        NamedDwarf x = twoSheets();
        due.answer("copy(0, 1, 1, 0, 3)", x.copy(0, 1, 1, 0, 3), 1);
        items(x, 1, 2, 2, 3, 4);
        due.answer("copy(0, 0, 0, 1, 4), as they were", x.copy(0, 0, 0, 1, 4), 1);
        items(x, 0, 2, 1, 1, 2, 3, 4);
        x = twoSheets();
        due.answer("copy(0, 1, 0, 0, 4), as they were", x.copy(0, 1, 0, 0, 4), 1);
        items(x, 0, 2, 2, 3, 4, 5, 5);
        due.answer("copy none at the ends", x.copy(0, 5, 1, 3, 0), 1);
        due.answer("copy none, i above", x.copy(0, 6, 1, 3, 0), INDEX);
        due.answer("copy none, j above", x.copy(0, 5, 1, 4, 0), INDEX);
        due.answer("copy, i below", x.copy(0, -1, 1, 0, 1), INDEX);
        due.answer("copy, j below", x.copy(0, 0, 1, -1, 1), INDEX);
        due.answer("copy, n below", x.copy(0, 0, 1, 0, -1), INDEX);
        due.answer("copy, not so many", x.copy(0, 3, 1, 0, 3), INDEX);
        due.answer("copy, no room", x.copy(0, 0, 1, 1, 3), INDEX);
        due.answer("copy, most", x.copy(0, 1, 1, 1, MOST_INT), INDEX);
        due.answer("finding 2", x.count(8), 2);
        items(x, 0, 2, 2, 3, 4, 5, 5);
        x.sheet(2, 1, 3);
        due.answer("copy, STORE ahead of INDEX", x.copy(0, -1, 2, 0, 1), STORE);
        due.answer("finding 4", x.count(8), 4);
        due.answer("copy to a lost one", x.copy(0, 0, 3, 0, 1), NULL);
        due.answer("copy from a lost one", x.copy(3, 0, 0, 0, 1), NULL);
        due.answer("copy(4, ..)", x.copy(4, 0, 3, 0, 1), BAD);
        due.answer("copy(3, .. 4)", x.copy(3, 0, 4, 0, 1), BAD);
        due.answer("copy(-1, ..)", x.copy(-1, 0, 0, 0, 1), BAD);
    }

    private static void writeRows() {
        NamedDwarf x = Scene.dwarf("1a;3b;2c", "", "");
        due.answer("write(-1)", x.write(-1), BAD);
        due.answer("write(4)", x.write(4), BAD);
        due.answer("write to a lost one", x.write(0), NULL);
        x.sheet(0, 0, 2);
        x.sheet(1, 2, 5);
        x.lay(1, 2, 3, 77);
        due.answer("write, as many as there are items", x.write(0), 2);
        items(x, 0, 0, 1, 2);
        due.answer("write, as many as fit", x.write(1), 3);
        items(x, 1, 2, 1, 2, 0, 77, 0);
        Scene.put(x, 1, "+f");
        due.answer("write, none fits", x.write(1), 0);
    }

    private static void counts() {
        NamedDwarf x = Scene.dwarf("1a;2b;3ab", "+a;-b", "...");
        x.guess(3);
        int[] want = {3, 2, 3, 9, 5, 3, 1, 0, 0};
        for (int what = 0; what < want.length; what++) {
            due.answer("count(" + what + ")", x.count(what), want[what]);
        }
        Scene.put(x, 2, "");
        due.answer("count(7)", x.count(7), 1);
        due.answer("count(9)", x.count(9), BAD);
        due.answer("count(-1)", x.count(-1), BAD);
        x.read(0);
        due.answer("count(8)", x.count(8), 1);
        x.read(9);
        due.answer("count(8), no finding more", x.count(8), 1);
    }

    private static long mixed(long... answers) {
        long h = 17;
        for (long answer : answers) {
            h = 31 * h + answer;
        }
        return h;
    }

    private static void digests() {
        due.answer("digest() of a new one", new NamedDwarf().digest(), mixed(
                0, 0, 0, 0, 0, 0, 0, 0, NONE, NONE, NONE, 0,
                NONE, NONE, NONE, NONE, NONE, NONE, NONE, NONE, NONE, NONE,
                LONG_NOT, LONG_NOT, 0, 1, NONE, 0, NOT, NOT, 0, NOT, 0, 0, 0, 0, 0, BAD));
        NamedDwarf x = Scene.dwarf("3ab;2bb", "+a;-c", "..");
        x.guess(1);
        x.set(2, 1);
        due.answer("digest() of two names", x.digest(), mixed(
                2, 2, 2, 7, 5, 2, 1, 1, NONE, NONE, NONE, 1,
                2, 3, 0, 1, 1, 2, NONE, 107, 0,
                2, 2, 1, 0, 1, 1, 0, 1, 1,
                1, 3,
                0, NONE, NONE, NONE, NONE, NONE, NONE, NONE, NONE, NONE,
                1, 1, 1, 1, 0, LONG_BAD, 0, 1, 1, 1, 1, 2, 1, 1, 1, '.'));
        long before = x.digest();
        x.get(0, 0, 0);
        due.answer("digest() tells no finding", x.digest(), before);
        x = Scene.dwarf("3abca;1abda;2fab;1abc;3cab;5abcb;4dab", "+ab;-da;+b", "");
        x.guess(3);
        x.guess(9);
        x.guess(0);
        x.set(4, 2);
        due.answer("digest() of its calls", x.digest(), digestByCalls(x));
        Scene.put(x, 0, "2ab;2cd;1ef;1ff");
        Scene.put(x, 1, "+c");
        due.answer("digest() of its calls, one fits", x.digest(), digestByCalls(x));
        Scene.put(x, 1, "+a;+f;+b");
        due.answer("digest() of its calls, none fits", x.digest(), digestByCalls(x));
    }

    private static long digestByCalls(NamedDwarf x) {
        StringBuilder told = new StringBuilder();
        for (int what = 0; what <= 7; what++) {
            told.append(x.count(what)).append(' ');
        }
        told.append(x.fault(0) + " " + x.fault(1) + " " + x.fault(2) + " " + x.fits() + " ");
        for (int it = 0; it < x.count(0); it++) {
            told.append(x.name(it, -2) + " " + x.name(it, NONE) + " " + x.name(it, 0) + " ");
            told.append(x.chance(it, 0) + " " + x.chance(it, 1) + " " + x.off(it) + " ");
            told.append(x.named(it, 0) + " " + x.named(it, 1) + " " + x.changes(0, it) + " ");
        }
        for (int it = 0; it < x.count(1); it++) {
            told.append(x.heard(it)).append(' ');
        }
        for (int i = 0; i < 10; i++) {
            told.append(x.row(i)).append(' ');
        }
        told.append(x.mean(0) + " " + x.mean(1) + " ");
        told.append(x.wisest(0, x.fits(), 0) + " " + x.wisest(0, x.fits(), 1) + " " + x.wisest(0, x.fits(), 2) + " ");
        told.append(x.wisest(2, 7, 0) + " " + x.listen(0) + " " + x.listen(1) + " " + x.sure() + " " + x.spun(99) + " ");
        told.append(x.pool(1, 2, 0) + " " + x.pool(1, 2, 1) + " " + x.pool(1, 2, 2) + " ");
        told.append(x.shortest(0) + " " + x.shortest(1) + " " + x.sung(3, 0));
        long h = 17;
        for (String answer : told.toString().split(" ")) {
            h = 31 * h + Long.parseLong(answer);
        }
        return h;
    }
}
