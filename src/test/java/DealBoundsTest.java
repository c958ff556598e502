/**
 * The sentences that bound the deal and the nights as they went: GOLD, COW, NIGHTS, RUIN, A NIGHT,
 * GUESSES, NAMED, ROW, and promises 7 to 10 and 15 to 17. Each has a test of its own.
 */
public final class DealBoundsTest {
    private static final int NONE = Scene.NONE, BAD = Scene.BAD, NOT = Scene.NOT, FULL = Scene.FULL;
    private static final int GOLD = 0, COW = 1, NIGHTS = 2, RUIN = 3, A_NIGHT = 4;
    private static final Due due = new Due("DealBoundsTest");

    public static void main(String[] args) {
        goldBounds();
        cowBounds();
        nightsBounds();
        ruinBounds();
        aNightBounds();
        noSuchTerm();
        goldDoubles();
        wrongGuessesCost();
        whoHasNotNamedHim();
        soManyANight();
        twelveGuesses();
        namesNotThere();
        namedTwice();
        guessedTooLate();
        lastGuessMade();
        unguessToNone();
        readItemByItem();
        readTwelveAtMost();
        readOfEachForm();
        readGoneByTheFirst();
        rowOrder();
        rowEnds();
        meanOfOne();
        meanTooLate();
        meanLowestTerms();
        meanGreatest();
        due.end();
    }

    /** The first value, the least, the most; just outside of them it stays. */
    private static void bounds(int what, int first, int least, int most) {
        NamedDwarf x = new NamedDwarf();
        due.answer("below the least", x.set(what, least - 1), BAD);
        due.answer("above the most", x.set(what, most + 1), BAD);
        due.answer("at first", x.set(what, least), first);
        due.answer("the least", x.set(what, least - 1), BAD);
        due.answer("the least stays", x.set(what, most), least);
        due.answer("the most", x.set(what, most + 1), BAD);
        due.answer("the most stays", x.set(what, most), most);
        due.answer("far below", x.set(what, Scene.LEAST_INT), BAD);
        due.answer("far above", x.set(what, Scene.MOST_INT), BAD);
        due.answer("a like one", x.set(what, most), most);
        int[] others = {1, 5, 10, 100, 1};
        for (int other = 0; other < 5; other++) {
            due.answer("the others stay", other == what ? 1 : x.set(other, 1), other == what ? 1 : others[other]);
        }
    }

    private static void named(NamedDwarf x, int name, int night, int paid) {
        due.answer("named(" + name + ", 0)", x.named(name, 0), night);
        due.answer("named(" + name + ", 1)", x.named(name, 1), paid);
    }

    private static void mean(NamedDwarf x, int above, int below) {
        due.answer("mean(0)", x.mean(0), above);
        due.answer("mean(1)", x.mean(1), below);
    }

    /** "GOLD (1 to 99; 1 at first)" */
    private static void goldBounds() {
        bounds(GOLD, 1, 1, 99);
    }

    /** "COW (0 to 99; 5 at first)" */
    private static void cowBounds() {
        bounds(COW, 5, 0, 99);
    }

    /** "NIGHTS (1 to 12; 10 at first)" */
    private static void nightsBounds() {
        bounds(NIGHTS, 10, 1, 12);
    }

    /** "RUIN (0 to 9999; 100 at first)" */
    private static void ruinBounds() {
        bounds(RUIN, 100, 0, 9999);
    }

    /** "A NIGHT (1 to 3; 1 at first)" */
    private static void aNightBounds() {
        bounds(A_NIGHT, 1, 1, 3);
    }

    /** "GOLD (what = 0), COW (1), NIGHTS (2), RUIN (3), A NIGHT (4): what it was. BAD." */
    private static void noSuchTerm() {
        NamedDwarf x = new NamedDwarf();
        due.answer("set(-1, 1)", x.set(-1, 1), BAD);
        due.answer("set(5, 1)", x.set(5, 1), BAD);
        due.answer("set(4, 1)", x.set(4, 1), 1);
        due.answer("set(0, 1)", x.set(0, 1), 1);
    }

    /** "GOLD is promised in night 0; in night n it is 2 to the n times that." */
    private static void goldDoubles() {
        NamedDwarf x = Scene.named("1a");
        Scene.deal(x, 99, 0, 12, 0, 1);
        due.answer("not named: 99 times 4096", x.named(0, 1), 405504);
        int[] promised = {99, 198, 396, 792, 1584, 3168, 6336, 12672, 25344, 50688, 101376, 202752};
        x.guess(0);
        for (int night = 0; night < 12; night++) {
            named(x, 0, night, promised[night]);
            x.unguess();
            x.guess(1);
            x.guess(0);
        }
        Scene.deal(x, 1, 0, 12, 0, 1);
        due.answer("1 times 4096", x.named(0, 1), 4096);
        x.wipe(0);
        Scene.more(x, 0, "1a;1b");
        due.answer("1 in night 0", x.named(1, 1), 1);
    }

    /** "COW is what a wrong guess costs": none, one, the most. */
    private static void wrongGuessesCost() {
        NamedDwarf x = Scene.named("1a;1b");
        Scene.guess(x, 0, 1);
        x.set(COW, 0);
        named(x, 1, 1, 2);
        x.set(COW, 1);
        named(x, 1, 1, 3);
        x.set(COW, 99);
        named(x, 1, 1, 101);
        named(x, 0, 0, 1);
    }

    /** "who has not named him in nights 0 to NIGHTS less 1 pays what is promised in night NIGHTS, and RUIN" */
    private static void whoHasNotNamedHim() {
        NamedDwarf x = Scene.named("1a");
        due.answer("1024 and 100", x.named(0, 1), 1124);
        x.set(NIGHTS, 1);
        due.answer("2 and 100", x.named(0, 1), 102);
        x.set(RUIN, 0);
        due.answer("2 and 0", x.named(0, 1), 2);
        x.set(RUIN, 9999);
        due.answer("2 and 9999", x.named(0, 1), 10001);
        x.set(NIGHTS, 12);
        due.answer("4096 and 9999", x.named(0, 1), 14095);
        x.set(GOLD, 99);
        due.answer("405504 and 9999", x.named(0, 1), 415503);
        Scene.guess(x, 1, 1, 1, 1, 1, 1, 1, 1, 1, 1, 1, 1);
        x.set(COW, 99);
        // twelve cows of 99 are 1188
        named(x, 0, NONE, 416691);
    }

    /** "A NIGHT is how many guesses are made in one"; "a COW for each wrong guess ahead (in the same night, too)" */
    private static void soManyANight() {
        NamedDwarf x = Scene.named("1a;1b;1c;1d");
        Scene.guess(x, 0, 1, 2, 3);
        // 1, 2, 4, 8 and 0, 5, 10, 15
        int[][] paid = {{1, 7, 14, 23}, {1, 6, 12, 17}, {1, 6, 11, 17}};
        int[][] nights = {{0, 1, 2, 3}, {0, 0, 1, 1}, {0, 0, 0, 1}};
        for (int many = 1; many <= 3; many++) {
            x.set(A_NIGHT, many);
            for (int name = 0; name < 4; name++) {
                named(x, name, nights[many - 1][name], paid[many - 1][name]);
            }
        }
    }

    /** "GUESSES, 12 at most (0 on)" */
    private static void twelveGuesses() {
        NamedDwarf x = Scene.named("1a;1b");
        due.answer("no guesses", x.count(6), 0);
        for (int many = 1; many <= 12; many++) {
            due.answer("guess", x.guess(many == 12 ? 1 : 9), many);
            due.answer("guesses", x.count(6), many);
        }
        due.answer("a 13th", x.guess(0), FULL);
        due.answer("a 13th that is BAD", x.guess(-1), BAD);
        due.answer("guesses", x.count(6), 12);
        x.set(NIGHTS, 12);
        // 2048 and 11 cows
        named(x, 1, 11, 2103);
        named(x, 0, NONE, 4096 + 100 + 60);
        due.answer("unguess", x.unguess(), 11);
        due.answer("a 12th again", x.guess(0), 12);
    }

    /** "NAMES 0 to 9 (there or not: such a one is wrong)" */
    private static void namesNotThere() {
        NamedDwarf x = new NamedDwarf();
        due.answer("guess(-1)", x.guess(-1), BAD);
        due.answer("guess(10)", x.guess(10), BAD);
        due.answer("none came", x.count(6), 0);
        for (int name = 0; name <= 9; name++) {
            due.answer("guess(" + name + ")", x.guess(name), name + 1);
        }
        Scene.more(x, 0, "1a");
        named(x, 0, 0, 1);
        // it was not there as it was guessed, but is now
        Scene.more(x, 0, ";1b");
        named(x, 1, 1, 7);
        due.answer("2 is not there", x.named(2, 0), BAD);
        x = Scene.named(Scene.TEN);
        Scene.guess(x, 9);
        named(x, 9, 0, 1);
    }

    /** "the night": of two guesses of it the first one names him. */
    private static void namedTwice() {
        NamedDwarf x = Scene.named("1a;1b");
        Scene.guess(x, 0, 1, 0, 1);
        named(x, 0, 0, 1);
        named(x, 1, 1, 7);
    }

    /** "a COW for each guess in nights ahead of NIGHTS (a guess in a later one is not made)" */
    private static void guessedTooLate() {
        NamedDwarf x = Scene.named("1a;1b;1c");
        Scene.guess(x, 0, 1, 2);
        x.set(NIGHTS, 2);
        named(x, 1, 1, 7);
        // 4 and 100, and two cows: the third guess is not made
        named(x, 2, NONE, 114);
        x.set(NIGHTS, 3);
        named(x, 2, 2, 14);
        x.set(NIGHTS, 1);
        named(x, 1, NONE, 107);
        named(x, 2, NONE, 107);
    }

    /** The same, at the last guess that a night has: so many nights times so many guesses. */
    private static void lastGuessMade() {
        NamedDwarf x = Scene.named("1a;1b");
        Scene.guess(x, 9, 9, 9, 9, 9, 9, 9, 9, 0, 1, 9, 9);
        x.set(COW, 1);
        x.set(A_NIGHT, 3);
        x.set(NIGHTS, 3);
        // nine guesses: 0 is the ninth, 1 the tenth
        named(x, 0, 2, 12);
        named(x, 1, NONE, 117);
        x.set(NIGHTS, 4);
        named(x, 1, 3, 17);
        x.unguess();
        x.unguess();
        x.unguess();
        // 16 and 100, and nine cows
        named(x, 1, NONE, 125);
        x.set(A_NIGHT, 1);
        x.set(NIGHTS, 8);
        named(x, 0, NONE, 364);
        x.set(NIGHTS, 9);
        named(x, 0, 8, 264);
        x.set(A_NIGHT, 2);
        x.set(NIGHTS, 4);
        named(x, 0, NONE, 124);
        x.set(NIGHTS, 5);
        named(x, 0, 4, 24);
    }

    /** "The last GUESS is undone: how many are left. NOT: there is none." */
    private static void unguessToNone() {
        NamedDwarf x = Scene.named("1a");
        due.answer("none", x.unguess(), NOT);
        for (int i = 0; i < 12; i++) {
            x.guess(0);
        }
        for (int left = 11; left >= 0; left--) {
            due.answer("unguess", x.unguess(), left);
            due.answer("named", x.named(0, 0), left == 0 ? NONE : 0);
        }
        due.answer("none again", x.unguess(), NOT);
        due.answer("none", x.count(6), 0);
    }

    /** "item by item, as long as each may be": 0 to 9; 10 and -1 may not be. */
    private static void readItemByItem() {
        NamedDwarf x = Scene.named("1a");
        Scene.lay(x, 0, 1, 9, 8, 10, 0);
        due.answer("up to the 10", x.read(0), 2);
        due.answer("count(6)", x.count(6), 2);
        due.answer("what is behind it is not read", x.named(0, 0), NONE);
        Scene.lay(x, 0, 1, 9, 8, 7, 0, -1, 0);
        due.answer("up to the -1", x.read(0), 4);
        named(x, 0, 3, 23);
        Scene.lay(x, 0, 1);
        due.answer("an empty one", x.read(0), 0);
        due.answer("those that were are gone", x.count(6), 0);
    }

    /** "12 at most: how many" */
    private static void readTwelveAtMost() {
        NamedDwarf x = Scene.named("1a;1b");
        x.set(NIGHTS, 12);
        Scene.lay(x, 3, 2, 9, 9, 9, 9, 9, 9, 9, 9, 9, 9, 9);
        due.answer("eleven", x.read(3), 11);
        Scene.lay(x, 3, 2, 9, 9, 9, 9, 9, 9, 9, 9, 9, 9, 9, 1);
        due.answer("twelve", x.read(3), 12);
        due.answer("the twelfth", x.named(1, 0), 11);
        Scene.lay(x, 3, 2, 9, 9, 9, 9, 9, 9, 9, 9, 9, 9, 9, 9, 1);
        due.answer("twelve of thirteen", x.read(3), 12);
        due.answer("the thirteenth is not read", x.named(1, 0), NONE);
        Scene.lay(x, 3, 2, 9, 9, 9, 9, 9, 9, 9, 9, 9, 9, 9, 0, 10);
        due.answer("a thirteenth that may not be", x.read(3), 12);
        due.answer("full", x.guess(0), FULL);
        x.sheet(3, 0, 60);
        due.answer("twelve of sixty", x.read(3), 12);
    }

    /** "GUESSES become those of a SHEET", of whatever FORM. */
    private static void readOfEachForm() {
        NamedDwarf x = Scene.named("1a;1b");
        for (int form = 0; form < 3; form++) {
            // 256 is 0 as a byte, 65537 is 1 as a short
            Scene.lay(x, form, form, 256, 65537, 2);
        }
        due.answer("bytes 0, 1, 2", x.read(0), 3);
        due.answer("1 is second", x.named(1, 0), 1);
        due.answer("shorts 256", x.read(1), 0);
        due.answer("ints 256", x.read(2), 0);
        Scene.lay(x, 1, 1, 1, 65536, 9);
        due.answer("shorts 1, 0, 9", x.read(1), 3);
        due.answer("0 is second", x.named(0, 0), 1);
        due.answer("the SHEET is as it was", x.get(1, 1, 2), 9);
    }

    /** "(those that were are gone, also if the first item may not be)" */
    private static void readGoneByTheFirst() {
        for (int first : new int[] {-1, 10}) {
            NamedDwarf x = Scene.named("1a");
            Scene.guess(x, 0, 1, 2);
            Scene.lay(x, 0, 0, first, 0);
            due.answer("none is read", x.read(0), 0);
            due.answer("none is there", x.count(6), 0);
            due.answer("he is not named", x.named(0, 0), NONE);
        }
        NamedDwarf x = Scene.named("1a");
        Scene.guess(x, 0, 1, 2);
        due.answer("of a LOST one", x.read(0), Scene.NULL);
        due.answer("of no SHEET", x.read(4), BAD);
        due.answer("then they stay", x.count(6), 3);
    }

    /** "the greatest ODDS first (of like ones the least): the i-th" */
    private static void rowOrder() {
        NamedDwarf x = Scene.named("1a;9b;1c;8d;9e;2f;9a;8b");
        int[] row = {1, 4, 6, 3, 7, 5, 0, 2, NONE, NONE};
        for (int i = 0; i < 10; i++) {
            due.answer("row(" + i + ")", x.row(i), row[i]);
        }
        Scene.put(x, 1, "-b;-e");
        int[] rest = {6, 3, 5, 0, 2, NONE};
        for (int i = 0; i < 6; i++) {
            due.answer("row(" + i + ") of the rest", x.row(i), rest[i]);
        }
    }

    /** "ROW: the i-th NAME (0 to 9; NONE). BAD." */
    private static void rowEnds() {
        NamedDwarf x = Scene.named(Scene.TEN);
        for (int i = 0; i < 10; i++) {
            due.answer("row(" + i + ") of ten like ones", x.row(i), i);
        }
        due.answer("row(10)", x.row(10), BAD);
        due.answer("row(-1)", x.row(-1), BAD);
        x.wipe(0);
        due.answer("row(0) of none", x.row(0), NONE);
        due.answer("row(9) of none", x.row(9), NONE);
        due.answer("row(10) of none", x.row(10), BAD);
    }

    /** "the mean of what is paid in all", of one alone, and of none. */
    private static void meanOfOne() {
        NamedDwarf x = Scene.named("9a");
        mean(x, 1, 1);
        x.set(GOLD, 99);
        mean(x, 99, 1);
        x.set(NIGHTS, 1);
        mean(x, 99, 1);
        x.wipe(0);
        due.answer("none: above", x.mean(0), Scene.LONG_NOT);
        due.answer("none: below", x.mean(1), Scene.LONG_NOT);
    }

    /** "(as above: those guessed too late are not guessed)" */
    private static void meanTooLate() {
        NamedDwarf x = Scene.named(Scene.TEN);
        Scene.deal(x, 1, 5, 4, 100, 3);
        // 3 of 1, 3 of 2, 3 of 4, 1 of 8 are 29, and 0 to 9 cows 225
        mean(x, 127, 5);
        x.set(NIGHTS, 3);
        // 3 of 1, 3 of 2, 3 of 4 are 21, 0 to 8 cows 180; the tenth pays 8 and 100 and 9 cows
        mean(x, 177, 5);
        x.set(NIGHTS, 1);
        // 3 of 1, 0 to 2 cows 15; seven pay 2 and 100 and 3 cows
        mean(x, 837, 10);
        x.set(A_NIGHT, 1);
        // 1; nine pay 2 and 100 and a cow
        mean(x, 482, 5);
        Scene.guess(x, 3, 3, 3);
        // GUESSES are no part of it
        mean(x, 482, 5);
    }

    /** "FRACTIONS are told in lowest terms, above and below" */
    private static void meanLowestTerms() {
        NamedDwarf x = Scene.named("2a;4b");
        x.set(COW, 0);
        // 4 of 1 and 2 of 2, by 6
        mean(x, 4, 3);
        x.set(COW, 1);
        // 4 of 1 and 2 of 3, by 6
        mean(x, 5, 3);
        x.set(COW, 4);
        // 4 of 1 and 2 of 6, by 6
        mean(x, 8, 3);
        x.set(COW, 3);
        // 4 of 1 and 2 of 5, by 6
        mean(x, 7, 3);
        x.set(COW, 2);
        // 4 of 1 and 2 of 4, by 6
        mean(x, 2, 1);
    }

    /** The most of all terms. */
    private static void meanGreatest() {
        NamedDwarf x = Scene.named(Scene.TEN_ALIKE);
        Scene.deal(x, 99, 99, 12, 9999, 1);
        // 99 times 1023, and 0 to 9 cows of 99 are 4455: 105732 by 10
        mean(x, 52866, 5);
        x.set(NIGHTS, 1);
        // 99; nine pay 198 and 9999 and a cow: 92763 by 10
        mean(x, 92763, 10);
        x.set(NIGHTS, 9);
        // 99 times 511 and 3564; the tenth pays 50688 and 9999 and 891: 115731 by 10
        mean(x, 115731, 10);
    }
}
