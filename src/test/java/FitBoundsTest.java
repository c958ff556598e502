/**
 * The sentences that bound what fits and what is alike: FITS, CHANCE, HEARD, OFF, POOL, SHORTEST,
 * SUNG, CHANGES, and promises 11 to 14 and 22 to 25. Each has a test of its own.
 */
public final class FitBoundsTest {
    private static final int NONE = Scene.NONE, BAD = Scene.BAD;
    private static final Due due = new Due("FitBoundsTest");

    public static void main(String[] args) {
        heardSideBySide();
        heardAtTheEnds();
        heardNowhere();
        pieceLongerThanName();
        heardByOneAlone();
        songOfJustSoManyLetters();
        songFitsByLetters();
        emptySongFitsAll();
        allPiecesAndTheSong();
        nothingToFit();
        chanceInLowestTerms();
        chanceOfOneThatDoesNotFit();
        chanceOfAll();
        offInJustOneLetter();
        offOfThoseAsLong();
        offOfTheSameLetters();
        poolBits();
        poolOfThoseThatThereAre();
        poolWithTheSong();
        shortestOfNone();
        shortestOfAll();
        shortestOfLikeOnes();
        shortestWithTheSong();
        sungAsLongAsAll();
        sungLetters();
        sungBeyond();
        sungUnlikeLong();
        sungOfThoseThatThereAre();
        changesToItself();
        changesOneAtATime();
        changesOfTheSameLetters();
        changesAtMost();
        due.end();
    }

    private static void fits(String names, String pieces, String song, int bits) {
        NamedDwarf x = Scene.dwarf(names, pieces, song);
        due.answer("fits() of " + names + ", " + pieces + ", " + song, x.fits(), bits);
        due.answer("count(7) of them", x.count(7), Integer.bitCount(bits));
    }

    private static void chance(NamedDwarf x, int name, int above, int below) {
        due.answer("chance(" + name + ", 0)", x.chance(name, 0), above);
        due.answer("chance(" + name + ", 1)", x.chance(name, 1), below);
    }

    /** "these were heard, side by side, somewhere in the name (+)" */
    private static void heardSideBySide() {
        fits("1abc;1acb;1bac;1aab", "+ab", "", 1 + 8);
        fits("1abc;1acb;1adc", "+ac", "", 2);
        fits("1abcabd", "+abd", "", 1);
        fits("1ababd;1abdab;1abcd", "+abd", "", 3);
        fits("1aaab;1aab;1abab", "+aab", "", 3);
    }

    /** The same, at the first and the last place, and of the whole name. */
    private static void heardAtTheEnds() {
        fits("1abcdef", "+abc", "", 1);
        fits("1abcdef", "+def", "", 1);
        fits("1abcdef", "+a", "", 1);
        fits("1abcdef", "+f", "", 1);
        fits("1abc", "+abc", "", 1);
        fits("1a", "+a", "", 1);
        fits("1abcdef", "+fa", "", 0);
        fits("1abcdef;1ef", "+efa", "", 0);
        // what a name before it had there is not heard at its end
        fits("1abcdef;1ab;1a", "+bc", "", 1);
    }

    /** "or they are nowhere in it (-)" */
    private static void heardNowhere() {
        fits("1abc;1acb;1bac;1aab", "-ab", "", 2 + 4);
        fits("1abcdef;1bcdef", "-a", "", 2);
        fits("1abcdef;1abcde", "-f", "", 2);
        fits("1abcdef;1bacdef", "-abc", "", 2);
        fits("1abcdef;1abcdfe", "-def", "", 2);
        fits("1abc;1ab", "-abc", "", 2);
    }

    /** A piece longer than a name is nowhere in it. */
    private static void pieceLongerThanName() {
        fits("1ab;1a", "+abc", "", 0);
        fits("1ab;1a", "-abc", "", 3);
        fits("1ab;1a", "+ab", "", 1);
        fits("1ab;1a", "-ab", "", 2);
    }

    /** "HEARD by one PIECE alone: NAMES that it fits, as bits." */
    private static void heardByOneAlone() {
        NamedDwarf x = Scene.dwarf("1ab;1ba;1c", "+ab;-ab;+d;-d;+c;+a", "f");
        int[] want = {1, 6, 0, 7, 4, 3};
        for (int piece = 0; piece < 6; piece++) {
            due.answer("heard(" + piece + ")", x.heard(piece), want[piece]);
        }
        due.answer("heard(6)", x.heard(6), BAD);
        due.answer("heard(-1)", x.heard(-1), BAD);
        Scene.put(x, 0, Scene.TEN);
        due.answer("heard(3) of ten", x.heard(3), 1023 - 8 - 512);
        x.wipe(0);
        due.answer("heard(3) of none", x.heard(3), 0);
    }

    /** "how the name goes (of just so many letters)" */
    private static void songOfJustSoManyLetters() {
        String names = "1a;1aa;1aaa;1aaaa;1aaaaa;1aaaaaa";
        String song = "......";
        for (int many = 1; many <= 6; many++) {
            fits(names, "", song.substring(0, many), 1 << many - 1);
        }
        fits(names, "", "aa", 2);
        fits("1ab", "", "a", 0);
        fits("1a", "", "ab", 0);
    }

    /** "letters a to f or . (any)" */
    private static void songFitsByLetters() {
        fits("1abcdef;1bbcdef;1abcdee", "", "abcdef", 1);
        fits("1abcdef;1bbcdef;1abcdee", "", ".bcdef", 3);
        fits("1abcdef;1bbcdef;1abcdee", "", "abcde.", 5);
        fits("1abcdef;1bbcdef;1abcdee", "", "......", 7);
        fits("1ab;1ba", "", "a.", 1);
        fits("1ab;1ba", "", ".a", 2);
        fits("1ab;1ba", "", "c.", 0);
    }

    /** "an empty one fits all" */
    private static void emptySongFitsAll() {
        fits("1a;1bb;1ccc;1dddd;1eeeee;1ffffff", "", "", 63);
        NamedDwarf x = Scene.dwarf("1a;1bb", "", ".");
        due.answer("one letter", x.fits(), 1);
        x.undo(2);
        due.answer("empty again", x.fits(), 3);
        due.answer("how long", x.count(2), 0);
    }

    /** "FITS: NAMES that all PIECES and THE SONG fit, as bits." */
    private static void allPiecesAndTheSong() {
        String names = "1ab;1abc;1bca;1cab;1ba";
        fits(names, "+ab", "", 1 + 2 + 8);
        fits(names, "+ab;-c", "", 1);
        fits(names, "+ab;-c", "...", 0);
        fits(names, "+ab", "...", 2 + 8);
        fits(names, "+ab;+ca", "...", 8);
        fits(names, "+a;+a;+a;+a;+a;+ca", "", 4 + 8);
        fits(names, "+a;-a", "", 0);
    }

    /** No NAMES, no PIECES, no SONG; and ten that all fit. */
    private static void nothingToFit() {
        fits("", "", "", 0);
        fits("", "+a", ".", 0);
        fits("1a", "", "", 1);
        fits(Scene.TEN, "", "", 1023);
        fits(Scene.TEN, "+dd", "..", 512);
    }

    /** "its ODDS by those of all that fit: a FRACTION"; "in lowest terms" */
    private static void chanceInLowestTerms() {
        NamedDwarf x = Scene.named("2a;4b;6c");
        chance(x, 0, 1, 6);
        chance(x, 1, 1, 3);
        chance(x, 2, 1, 2);
        Scene.put(x, 1, "-c");
        chance(x, 0, 1, 3);
        chance(x, 1, 2, 3);
        Scene.put(x, 0, "9a;8b");
        chance(x, 0, 9, 17);
        chance(x, 1, 8, 17);
    }

    /** "(0, if it does not)"; "(0 by 1)" */
    private static void chanceOfOneThatDoesNotFit() {
        NamedDwarf x = Scene.dwarf("2a;4b;6c", "-c", "");
        chance(x, 2, 0, 1);
        due.answer("none such", x.chance(3, 0), Scene.LONG_BAD);
        Scene.put(x, 1, "+d");
        due.answer("none fits", x.chance(2, 0), Scene.LONG_NOT);
        due.answer("none fits, none such", x.chance(3, 0), Scene.LONG_BAD);
    }

    /** One alone; ten of the greatest ODDS. */
    private static void chanceOfAll() {
        chance(Scene.named("9a"), 0, 1, 1);
        chance(Scene.dwarf("9a;9b", "-b", ""), 0, 1, 1);
        chance(Scene.named(Scene.TEN_ALIKE), 9, 1, 10);
        chance(Scene.named("9a;9a;9a;9a;9a;9a;9a;9a;9a;8a"), 0, 9, 89);
        chance(Scene.named("9a;9a;9a;9a;9a;9a;9a;9a;9a;8a"), 9, 8, 89);
    }

    /** "two NAMES ... that are unlike in just one letter" */
    private static void offInJustOneLetter() {
        NamedDwarf x = Scene.named("1abcdef;1bbcdef;1abcdee;1bbcdee;1abcaef;1fedcba;1abcdef");
        // the first, the last, one between; 3 in two of them, 5 in six
        due.answer("off(0)", x.off(0), 2 + 4 + 16);
        due.answer("off(1)", x.off(1), 1 + 8 + 64);
        due.answer("off(3)", x.off(3), 2 + 4);
        due.answer("off(5)", x.off(5), 0);
        due.answer("off(7)", x.off(7), BAD);
        due.answer("off(-1)", x.off(-1), BAD);
        due.answer("off of one letter", Scene.named("1a;1b;1c;1a").off(0), 2 + 4);
        due.answer("off of ten", Scene.named(Scene.TEN).off(9), 0);
        due.answer("off of ten", Scene.named("1aa;1ab;1ac;1ad;1ae;1af;1ba;1ca;1da;1ea").off(0), 1022);
    }

    /** "two NAMES as long" */
    private static void offOfThoseAsLong() {
        NamedDwarf x = Scene.named("1ab;1a;1abc;1b;1bb");
        due.answer("off(0)", x.off(0), 16);
        due.answer("off(1)", x.off(1), 8);
        due.answer("off(2)", x.off(2), 0);
    }

    /** "(not two of the same letters)" */
    private static void offOfTheSameLetters() {
        NamedDwarf x = Scene.named("1ab;1ab;9ab;1ac");
        due.answer("off(0)", x.off(0), 8);
        due.answer("off(1)", x.off(1), 8);
        due.answer("off(3)", x.off(3), 7);
        due.answer("of the same letters in another order", Scene.named("1ab;1ba").off(0), 0);
    }

    /** "two heard PIECES told as bits each (0 to 63 ...)" */
    private static void poolBits() {
        NamedDwarf x = Scene.dwarf("1a;1b;1c;1d;1e;1f;1aa", "-a;-b;-c;-d;-e;-f", "");
        due.answer("none: all fit", x.pool(0, 0, 0), 7);
        due.answer("none: all fit", x.pool(0, 0, 2), 7);
        due.answer("-a", x.pool(1, 0, 0), 5);
        due.answer("-f", x.pool(32, 63, 0), 6);
        due.answer("all", x.pool(63, 0, 0), 0);
        due.answer("the other one's, all", x.pool(0, 63, 1), 0);
        due.answer("the other one's, -f", x.pool(0, 32, 1), 6);
        due.answer("both: -a to -c, -d to -f", x.pool(7, 56, 2), 0);
        due.answer("both: -b, -c", x.pool(2, 4, 2), 5);
        due.answer("both: the same", x.pool(2, 2, 2), 6);
        due.answer("pool(64, 0, 0)", x.pool(64, 0, 0), BAD);
        due.answer("pool(0, 64, 0)", x.pool(0, 64, 0), BAD);
        due.answer("pool(-1, 0, 0)", x.pool(-1, 0, 0), BAD);
        due.answer("pool(0, -1, 0)", x.pool(0, -1, 0), BAD);
        due.answer("pool(0, 0, -1)", x.pool(0, 0, -1), BAD);
        due.answer("pool(0, 0, 3)", x.pool(0, 0, 3), BAD);
    }

    /** "of those that there are" */
    private static void poolOfThoseThatThereAre() {
        NamedDwarf x = Scene.dwarf("1a;1b;1c", "-a", "");
        due.answer("pool(63, 62, 0)", x.pool(63, 62, 0), 2);
        due.answer("pool(63, 62, 1)", x.pool(63, 62, 1), 3);
        due.answer("pool(62, 62, 2)", x.pool(62, 62, 2), 3);
        x.wipe(1);
        due.answer("no pieces", x.pool(63, 63, 2), 3);
        x.wipe(0);
        due.answer("no names", x.pool(63, 63, 2), 0);
    }

    /** "and THE SONG: how many NAMES fit the one's, the other one's, both" */
    private static void poolWithTheSong() {
        NamedDwarf x = Scene.dwarf("1ab;1ac;1b;1abc", "+a;+b", "..");
        due.answer("the song alone", x.pool(0, 0, 0), 2);
        due.answer("the one's", x.pool(1, 2, 0), 2);
        due.answer("the other one's", x.pool(1, 2, 1), 1);
        due.answer("both", x.pool(1, 2, 2), 1);
        x.wipe(2);
        due.answer("the one's", x.pool(1, 2, 0), 3);
        due.answer("the other one's", x.pool(1, 2, 1), 3);
        due.answer("both", x.pool(1, 2, 2), 2);
    }

    private static void shortest(String names, String pieces, String song, int bits) {
        NamedDwarf x = Scene.dwarf(names, pieces, song);
        String told = " of " + names + ", " + pieces + ", " + song;
        due.answer("shortest(0)" + told, x.shortest(0), Integer.bitCount(bits));
        due.answer("shortest(1)" + told, x.shortest(1), bits);
    }

    /** "SHORTEST: the fewest PIECES": none, where there are none or none settles anything. */
    private static void shortestOfNone() {
        shortest("", "", "", 0);
        shortest("1a;1b", "", "", 0);
        shortest("", "+a;+b;+c;+d;+e;+f", "", 0);
        shortest("1a;1ab", "+a;-c;-d;-e;-f;-ba", "", 0);
    }

    /** All six, as each alone settles something; and the last of six alone. */
    private static void shortestOfAll() {
        shortest("1a;1b;1c;1d;1e;1f", "-a;-b;-c;-d;-e;-f", "", 63);
        shortest("1a;1b;1c;1d;1e", "-a;-b;-c;-d;-e;-f", "", 31);
        shortest("1b;1c;1d;1e;1f", "-a;-b;-c;-d;-e;-f", "", 62);
        shortest("1f", "-a;-b;-c;-d;-e;-f", "", 32);
        shortest("1a", "-a", "", 1);
    }

    /** "(of like ones the least)" */
    private static void shortestOfLikeOnes() {
        shortest("1a;1b", "-a;-a;-a;-a;-a;-a", "", 1);
        shortest("1a;1b", "-c;+b;-a", "", 2);
        shortest("1ab;1ac;1c", "+a;-c;+b", "", 2);
        // 3 or 6 or 10
        shortest("1a;1b;1c", "-b;-a;-b;-b", "", 3);
        shortest("1a;1b;1c", "-a;-b;-a;-b", "", 3);
        shortest("1a;1b;1c;1d", "-d;-a;-b;-d", "", 7);
        // one, as 4, goes ahead of two, as 3
        shortest("1a;1b;1c", "-a;-b;+c", "", 4);
    }

    /** "by which with THE SONG just those NAMES fit that do by all" */
    private static void shortestWithTheSong() {
        shortest("1a;1ab;1b", "-b;+a", "", 1);
        shortest("1a;1ab;1b", "-b;+a", ".", 1);
        shortest("1a;1ab;1bb", "-b;+a", ".", 0);
        shortest("1a;1ab;1bb", "-a;+b", "..", 1);
        // none fits by the song alone
        shortest("1a;1b", "-a;-b", "...", 0);
    }

    private static void sung(NamedDwarf x, int names, int... bytes) {
        for (int i = 0; i < 6; i++) {
            due.answer("sung(" + names + ", " + i + ")", x.sung(names, i), i < bytes.length ? bytes[i] : NONE);
        }
    }

    /** "as long as all" */
    private static void sungAsLongAsAll() {
        NamedDwarf x = Scene.named("1a;1bc;1def;1abcd;1efabc;1defabc");
        sung(x, 1, 'a');
        sung(x, 2, 'b', 'c');
        sung(x, 4, 'd', 'e', 'f');
        sung(x, 8, 'a', 'b', 'c', 'd');
        sung(x, 16, 'e', 'f', 'a', 'b', 'c');
        sung(x, 32, 'd', 'e', 'f', 'a', 'b', 'c');
    }

    /** "a letter where all have it, else ." */
    private static void sungLetters() {
        NamedDwarf x = Scene.named("1abcdef;1bbcdef;1abcdee;1abcdef;1fedcba");
        sung(x, 3, '.', 'b', 'c', 'd', 'e', 'f');
        sung(x, 5, 'a', 'b', 'c', 'd', 'e', '.');
        sung(x, 7, '.', 'b', 'c', 'd', 'e', '.');
        sung(x, 9, 'a', 'b', 'c', 'd', 'e', 'f');
        sung(x, 17, '.', '.', '.', '.', '.', '.');
        due.answer("ten: not all have it", Scene.named("1a;1a;1a;1a;1a;1a;1a;1a;1a;1b").sung(1023, 0), '.');
        due.answer("ten: all have it", Scene.named("1f;1f;1f;1f;1f;1f;1f;1f;1f;1f").sung(1023, 0), 'f');
    }

    /** "NONE: beyond"; "i 0 to 5" */
    private static void sungBeyond() {
        NamedDwarf x = Scene.named("1abcde;1abcdef");
        due.answer("the last of five", x.sung(1, 4), 'e');
        due.answer("beyond five", x.sung(1, 5), NONE);
        due.answer("the last of six", x.sung(2, 5), 'f');
        due.answer("i 6", x.sung(2, 6), BAD);
        due.answer("i -1", x.sung(2, -1), BAD);
    }

    /** "or they are unlike long" */
    private static void sungUnlikeLong() {
        NamedDwarf x = Scene.named("1ab;1abc;1ab");
        sung(x, 3);
        sung(x, 6);
        sung(x, 7);
        sung(x, 5, 'a', 'b');
    }

    /** "(bits, one at least that there is)"; "BAD (bits 0 to 1023; i 0 to 5): also none that there is." */
    private static void sungOfThoseThatThereAre() {
        NamedDwarf x = Scene.dwarf("1ab;1cb", "+f", "f");
        due.answer("both, of all told", x.sung(1023, 1), 'b');
        due.answer("the second, of others told", x.sung(1022, 0), 'c');
        due.answer("none of those told", x.sung(1020, 0), BAD);
        due.answer("none told", x.sung(0, 0), BAD);
        due.answer("bits 1024", x.sung(1024, 0), BAD);
        due.answer("bits 1025", x.sung(1025, 0), BAD);
        due.answer("bits -1", x.sung(-1, 0), BAD);
        due.answer("the tenth", Scene.named(Scene.TEN).sung(512, 1), 'd');
        due.answer("a ninth that is none", Scene.named("1a").sung(256, 0), BAD);
    }

    /** "(to itself 0 ...)" */
    private static void changesToItself() {
        NamedDwarf x = Scene.named(Scene.TEN);
        for (int name = 0; name < 10; name++) {
            due.answer("changes to itself", x.changes(name, name), 0);
        }
        due.answer("to none", x.changes(0, 10), BAD);
        due.answer("from none", x.changes(10, 0), BAD);
        due.answer("none to itself", x.changes(10, 10), BAD);
        due.answer("-1", x.changes(-1, -1), BAD);
        due.answer("one alone", Scene.named("1a").changes(0, 0), 0);
    }

    /** "the fewest changes of a letter, one at a time, each to a NAME of the text ... NONE" */
    private static void changesOneAtATime() {
        NamedDwarf x = Scene.dwarf("1aaa;1aab;1abb;1bbb;1baa;1bba;1aabb;1ddd", "+f", "f");
        due.answer("one", x.changes(0, 1), 1);
        due.answer("two", x.changes(0, 2), 2);
        due.answer("three, by aab or baa", x.changes(0, 3), 3);
        due.answer("two, from the end", x.changes(3, 4), 2);
        due.answer("another length", x.changes(0, 6), NONE);
        due.answer("none between", x.changes(0, 7), NONE);
        due.answer("two letters unlike, none between", Scene.named("1aa;1bb").changes(0, 1), NONE);
        due.answer("two letters unlike, one between", Scene.named("1aa;1bb;1ab").changes(0, 1), 2);
        due.answer("a way around", Scene.named("1aa;1bb;1ac;1bc").changes(0, 1), 3);
    }

    /** "one of the same letters: by way of others alone" */
    private static void changesOfTheSameLetters() {
        due.answer("by way of none", Scene.named("1ab;1ab").changes(0, 1), NONE);
        due.answer("by way of one", Scene.named("1ab;1ab;1ac").changes(0, 1), 2);
        due.answer("by way of none so long", Scene.named("1ab;1ab;1abc;1a").changes(1, 0), NONE);
        due.answer("to one off", Scene.named("1ab;1ab;1ac").changes(1, 2), 1);
    }

    /** Nine, of ten names: more there cannot be. */
    private static void changesAtMost() {
        NamedDwarf x = Scene.named("1aaa;1baa;1bba;1bbb;1cbb;1ccb;1ccc;1dcc;1ddc;1ddd");
        due.answer("nine", x.changes(0, 9), 9);
        due.answer("nine back", x.changes(9, 0), 9);
        due.answer("eight", x.changes(0, 8), 8);
        NamedDwarf cut = Scene.named("1aaa;1baa;1bba;1bbb;1cbb;1eeb;1ccc;1dcc;1ddc;1ddd");
        due.answer("where one is missing", cut.changes(0, 9), NONE);
    }
}
