/**
 * The sentences that bound what is wisest: WISEST, LISTEN, SURE, SPUN, and promises 18 to 21. Each
 * has a test of its own.
 */
public final class WiseBoundsTest {
    private static final int NONE = Scene.NONE, BAD = Scene.BAD, NOT = Scene.NOT;
    private static final long LONG_BAD = Scene.LONG_BAD;
    private static final Due due = new Due("WiseBoundsTest");

    public static void main(String[] args) {
        fromNightZero();
        atNightNights();
        behindNights();
        theLastNight();
        namesAsBits();
        noneLeft();
        theyNeedNotFit();
        guessesAreNoPart();
        oneGuessWhateverANight();
        listenAtThePlaces();
        noLetterOfAShorterName();
        sevenSounds();
        leastOfLikeNames();
        guessAheadOfListening();
        leastOfLikePlaces();
        listenThoughItSettlesNothing();
        theTenthName();
        fractionsInLowestTerms();
        theGreatestDeal();
        whatOtherThanTold();
        listenToOneAlone();
        listenToTheLeastPlace();
        listenAtWorst();
        listenToThoseThatFit();
        sureOfNone();
        sureOfOne();
        sureOfThoseAlike();
        sureWhateverTheOdds();
        sureNightsAside();
        sureOfSevenSounds();
        spunNoLess();
        spunBounds();
        spunOfThoseThatFit();
        due.end();
    }

    private static void wisest(NamedDwarf x, int night, int names, long above, long below, long act) {
        String call = "wisest(" + night + ", " + names + ")";
        due.answer(call + ", above", x.wisest(night, names, 0), above);
        due.answer(call + ", below", x.wisest(night, names, 1), below);
        due.answer(call + ", what to do", x.wisest(night, names, 2), act);
    }

    private static void refused(NamedDwarf x, int night, int names) {
        wisest(x, night, names, LONG_BAD, LONG_BAD, LONG_BAD);
    }

    private static NamedDwarf dealt(String names, int gold, int cow, int nights, int ruin) {
        NamedDwarf x = Scene.named(names);
        Scene.deal(x, gold, cow, nights, ruin, 1);
        return x;
    }

    /** "from a night on (0 to NIGHTS)": night 0, and the first that is not. */
    private static void fromNightZero() {
        NamedDwarf x = dealt("1a", 99, 5, 12, 100);
        int[] promised = {99, 198, 396, 792, 1584, 3168, 6336, 12672, 25344, 50688, 101376, 202752};
        for (int night = 0; night < 12; night++) {
            wisest(x, night, 1, promised[night], 1, 0);
        }
        refused(x, -1, 1);
        refused(x, Scene.LEAST_INT, 1);
    }

    /** At night NIGHTS: "who has not named him ... pays what is promised in night NIGHTS, and RUIN"; "NONE: ... or it is night NIGHTS" */
    private static void atNightNights() {
        wisest(dealt("1a;3b", 1, 5, 10, 100), 10, 3, 1124, 1, NONE);
        wisest(dealt("1a;3b", 1, 5, 1, 100), 1, 3, 102, 1, NONE);
        wisest(dealt("1a;3b", 1, 5, 1, 0), 1, 1, 2, 1, NONE);
        wisest(dealt("1a;3b", 1, 5, 12, 0), 12, 2, 4096, 1, NONE);
        wisest(dealt("1a;3b", 99, 5, 12, 9999), 12, 3, 415503, 1, NONE);
        wisest(dealt("1a;3b", 99, 5, 12, 9999), 12, 0, 0, 1, NONE);
    }

    /** The first night that is none more. */
    private static void behindNights() {
        NamedDwarf x = dealt("1a", 1, 5, 1, 100);
        refused(x, 2, 1);
        x.set(2, 2);
        wisest(x, 2, 1, 104, 1, NONE);
        refused(x, 3, 1);
        x.set(2, 12);
        wisest(x, 12, 1, 4196, 1, NONE);
        refused(x, 13, 1);
        refused(x, 13, 0);
        refused(x, Scene.MOST_INT, 1);
    }

    /** In night NIGHTS less 1 a guess is made, or a spy sent for nothing. */
    private static void theLastNight() {
        // 1/2 of 1, and 1/2 of 5 and 2 and 100
        wisest(dealt("1a;1b", 1, 5, 1, 100), 0, 3, 54, 1, 0);
        // 3/4 of 512, and 1/4 of 5 and 1024 and 100
        wisest(dealt("1a;3b", 1, 5, 10, 100), 9, 3, 2665, 4, 1);
        wisest(dealt("1a;3b", 1, 5, 10, 100), 9, 2, 512, 1, 1);
    }

    /** "some NAMES told as bits": 0 to 1023 */
    private static void namesAsBits() {
        NamedDwarf x = Scene.named(Scene.TEN);
        for (int name = 0; name < 10; name++) {
            wisest(x, 0, 1 << name, 1, 1, name);
        }
        // at 1 first: four are told at once and cost 2, six of one letter are listened for at 0 and cost 4
        wisest(x, 0, 1023, 16, 5, 11);
        wisest(x, 0, 1022, 28, 9, 11);
        refused(x, 0, 1024);
        refused(x, 0, -1);
        refused(x, 0, Scene.MOST_INT);
        refused(x, 0, Scene.LEAST_INT);
    }

    /** "(others aside; of those that there are ...)": "a FRACTION (0 by 1, if none is left)"; "NONE: none is left" */
    private static void noneLeft() {
        NamedDwarf x = Scene.named("1a;3b");
        wisest(x, 0, 0, 0, 1, NONE);
        wisest(x, 0, 1020, 0, 1, NONE);
        wisest(x, 10, 4, 0, 1, NONE);
        wisest(x, 0, 1021, 1, 1, 0);
        wisest(x, 0, 1023, 2, 1, 10);
        x.wipe(0);
        wisest(x, 0, 1023, 0, 1, NONE);
        wisest(x, 10, 1023, 0, 1, NONE);
    }

    /** "they need not fit PIECES, THE SONG" */
    private static void theyNeedNotFit() {
        NamedDwarf x = Scene.dwarf("1a;3b", "+b", "f");
        wisest(x, 0, 3, 2, 1, 10);
        wisest(x, 0, 1, 1, 1, 0);
        due.answer("none fits", x.fits(), 0);
    }

    /** Nor are GUESSES told of: what was guessed before is left, if it is told. */
    private static void guessesAreNoPart() {
        NamedDwarf x = Scene.named("1a;3b");
        Scene.guess(x, 0, 1, 9);
        wisest(x, 0, 3, 2, 1, 10);
        wisest(x, 0, 1, 1, 1, 0);
    }

    /** "each night one NAME (one alone, whatever A NIGHT is) is guessed" */
    private static void oneGuessWhateverANight() {
        for (int many = 1; many <= 3; many++) {
            NamedDwarf x = Scene.named("1a;1a");
            x.set(4, many);
            // 1/2 of 1, and 1/2 of 5 and 2
            wisest(x, 0, 3, 4, 1, 0);
        }
    }

    /** "a spy listens at a place (0 to 5)"; "10 to 15 the place and 10" */
    private static void listenAtThePlaces() {
        String[] other = {"1baaaaa", "1abaaaa", "1aabaaa", "1aaabaa", "1aaaaba", "1aaaaab"};
        for (int place = 0; place < 6; place++) {
            // 2 for both; a guess would be 1/2 of 1, and 1/2 of 5 and 2
            wisest(Scene.named("1aaaaaa;" + other[place]), 0, 3, 2, 1, 10 + place);
        }
    }

    /** "what letter it is there (or none, of a shorter NAME)" */
    private static void noLetterOfAShorterName() {
        wisest(Scene.named("1a;1aa"), 0, 3, 2, 1, 11);
        wisest(Scene.named("1aaaaaa;1aaaaa"), 0, 3, 2, 1, 15);
        // behind both ends there is nothing to tell them by
        wisest(Scene.named("1a;1a;1ab"), 0, 3, 4, 1, 0);
        // none of both at 2, but at 1
        wisest(Scene.named("1a;1ab;1abc"), 0, 3, 2, 1, 11);
        wisest(Scene.named("1a;1ab;1abc"), 0, 6, 2, 1, 12);
    }

    /** All that can be heard at a place: six letters, or none. */
    private static void sevenSounds() {
        NamedDwarf x = Scene.named("1a;1aa;1ab;1ac;1ad;1ae;1af");
        wisest(x, 0, 127, 2, 1, 11);
        wisest(x, 1, 127, 4, 1, 11);
        // in the last night: 1/7 of 512, and 6/7 of 5 and 1124
        wisest(x, 9, 127, 7286, 7, 0);
    }

    /** "0 to 9 the NAME ... (of like ones the least ...)" */
    private static void leastOfLikeNames() {
        NamedDwarf x = dealt("1a;2b;2c", 1, 0, 10, 100);
        // 2/5 of 1, 2/5 of 2, 1/5 of 4; so it is, too, with 2 first, and by listening
        wisest(x, 0, 7, 2, 1, 1);
        wisest(x, 0, 6, 3, 2, 1);
        wisest(x, 0, 5, 4, 3, 2);
        wisest(Scene.named("1a;1a;1a"), 0, 6, 4, 1, 1);
    }

    /** The same, of a NAME and a place. */
    private static void guessAheadOfListening() {
        // 1/2 of 1, and 1/2 of COW and 2; by listening 2
        wisest(dealt("1a;1b", 1, 0, 10, 100), 0, 3, 3, 2, 0);
        wisest(dealt("1a;1b", 1, 1, 10, 100), 0, 3, 2, 1, 0);
        wisest(dealt("1a;1b", 1, 2, 10, 100), 0, 3, 2, 1, 10);
    }

    /** The same, of places. */
    private static void leastOfLikePlaces() {
        wisest(Scene.named("1aaaaaa;1bbbbbb"), 0, 3, 2, 1, 10);
        wisest(Scene.named("1abbbbb;1aaaaaa"), 0, 3, 2, 1, 11);
        wisest(Scene.named("1aa;1aabb"), 0, 3, 2, 1, 12);
        wisest(Scene.named("1abcda;1abcdab;1abcdb"), 0, 3, 2, 1, 15);
        wisest(Scene.named("1abcda;1abcdab;1abcdb"), 0, 6, 2, 1, 14);
    }

    /** A guess may be dearer than never to name him: then the least place. */
    private static void listenThoughItSettlesNothing() {
        NamedDwarf x = dealt("1a;1a", 1, 0, 1, 0);
        // 1/2 of 1, and 1/2 of COW and 2; by listening in vain 2
        wisest(x, 0, 3, 3, 2, 0);
        x.set(1, 1);
        wisest(x, 0, 3, 2, 1, 0);
        x.set(1, 2);
        wisest(x, 0, 3, 2, 1, 10);
        x.set(1, 99);
        wisest(x, 0, 3, 2, 1, 10);
        // one alone costs no COW
        wisest(x, 0, 2, 1, 1, 1);
        x.set(2, 2);
        // never to name him is 4; a guess 1/2 of 1, and 1/2 of 99 and 2
        wisest(x, 0, 3, 4, 1, 10);
        wisest(x, 1, 3, 4, 1, 10);
    }

    /** "0 to 9 the NAME": the last one, and all behind one another. */
    private static void theTenthName() {
        NamedDwarf x = dealt("1a;1a;1a;1a;1a;1a;1a;1a;1a;9a", 1, 0, 10, 100);
        // 9/18 of 1, and 1/18 each of 2 to 512
        wisest(x, 0, 1023, 1031, 18, 9);
        wisest(x, 0, 511, 511, 9, 0);
    }

    /** "a FRACTION": "in lowest terms" */
    private static void fractionsInLowestTerms() {
        NamedDwarf x = dealt("2a;4b", 1, 0, 10, 100);
        // 4/6 of 1, and 2/6 of 2
        wisest(x, 0, 3, 4, 3, 1);
        x.set(0, 3);
        wisest(x, 0, 3, 4, 1, 1);
        wisest(x, 0, 1, 3, 1, 0);
    }

    /** GOLD 99, COW 99, NIGHTS 12, RUIN 9999, ten NAMES of 9 that none can tell apart. */
    private static void theGreatestDeal() {
        NamedDwarf x = dealt(Scene.TEN_ALIKE, 99, 99, 12, 9999);
        wisest(x, 12, 1023, 415503, 1, NONE);
        // 1/10 of 202752, and 9/10 of 99 and 415503
        wisest(x, 11, 1023, 394317, 1, 0);
        // 1/10 each of 99 times 1023, and of 45 cows
        wisest(x, 0, 1023, 52866, 5, 0);
        due.answer("spun(10573)", x.spun(10573), 0);
        due.answer("spun(10574)", x.spun(10574), 1);
    }

    /** "above (what = 0), below (1), what to do (2; NONE)" */
    private static void whatOtherThanTold() {
        NamedDwarf x = Scene.named("1a");
        for (int what : new int[] {-1, 3, Scene.LEAST_INT, Scene.MOST_INT}) {
            due.answer("wisest(0, 1, " + what + ")", x.wisest(0, 1, what), LONG_BAD);
            due.answer("wisest(0, 0, " + what + ")", x.wisest(0, 0, what), LONG_BAD);
        }
        due.answer("wisest(0, 1, 0)", x.wisest(0, 1, 0), 1);
        due.answer("wisest(0, 1, 2)", x.wisest(0, 1, 2), 0);
    }

    private static void listen(NamedDwarf x, int place, int left) {
        due.answer("listen(0)", x.listen(0), place);
        due.answer("listen(1)", x.listen(1), left);
    }

    /** "LISTEN: of places 0 to 5": of one alone, and of none. */
    private static void listenToOneAlone() {
        listen(Scene.named("1f"), 0, 1);
        listen(Scene.named("1abcdef"), 0, 1);
        listen(new NamedDwarf(), NOT, NOT);
        listen(Scene.dwarf("1a", "-a", ""), NOT, NOT);
        due.answer("listen(2)", Scene.named("1f").listen(2), BAD);
        due.answer("listen(-1)", Scene.named("1f").listen(-1), BAD);
        due.answer("listen(2) of none", new NamedDwarf().listen(2), BAD);
    }

    /** "of like ones the least" */
    private static void listenToTheLeastPlace() {
        listen(Scene.named("1a;1a"), 0, 2);
        listen(Scene.named("1aaaaaa;1bbbbbb"), 0, 1);
        listen(Scene.named("1abbbbb;1aaaaaa"), 1, 1);
        listen(Scene.named("1aaaaab;1aaaaaa"), 5, 1);
        listen(Scene.named("1aaaaa;1aaaaaa"), 5, 1);
        listen(Scene.named(Scene.TEN_ALIKE), 0, 10);
    }

    /** "at which, whatever is heard, the fewest ... are left at worst" */
    private static void listenAtWorst() {
        // at 0 three and one, at 1 two and two
        listen(Scene.named("1aa;1aa;1ab;1bb"), 1, 2);
        // at 0 two and two, at 1 three sounds of two, one, one: alike at worst
        listen(Scene.named("1aa;1ab;1bc;1ba"), 0, 2);
        // at 1 there is none of two, at 0 all are alike
        listen(Scene.named("1a;1a;1ab;1ac;1ad"), 1, 2);
        // at 1 six are of none, at 0 two are alike of a to d
        listen(Scene.named(Scene.TEN), 0, 2);
        listen(Scene.named("1a;1aa;1ab;1ac;1ad;1ae;1af"), 1, 1);
    }

    /** "of all NAMES that fit" */
    private static void listenToThoseThatFit() {
        NamedDwarf x = Scene.dwarf("1aa;1ab;1bc;1bc", "+a", "");
        listen(x, 1, 1);
        Scene.put(x, 1, "+c");
        listen(x, 0, 2);
        Scene.put(x, 2, "aa");
        listen(x, NOT, NOT);
        x.wipe(1);
        listen(x, 0, 1);
    }

    private static void sure(String names, String pieces, int nights) {
        due.answer("sure() of " + names + ", " + pieces, Scene.dwarf(names, pieces, "").sure(), nights);
    }

    /** "of NAMES that fit ... : 0, if none fits" */
    private static void sureOfNone() {
        sure("", "", 0);
        sure("1a;1b", "+c", 0);
        sure("1a;", "", 0);
    }

    /** "(... the guess that names him is one)" */
    private static void sureOfOne() {
        sure("1a", "", 1);
        sure("1a;1b;1c", "-a;-b", 1);
        sure("1a;1b", "", 2);
        sure("1a;1a", "", 2);
    }

    /** Those that none can tell apart are guessed one by one: ten at most. */
    private static void sureOfThoseAlike() {
        StringBuilder names = new StringBuilder("1a");
        for (int many = 1; many <= 10; many++) {
            sure(names.toString(), "", many);
            names.append(";1a");
        }
        sure("1a;1a;1a;1a;1a;1a;1a;1a;1a;1b", "", 10);
        sure("1a;1a;1b;1b", "", 3);
        sure("1a;1a;1a;1b", "", 4);
        sure("1a;1a;1a;1a;1a;1b;1b;1b;1b;1b", "", 6);
    }

    /** "whatever the ODDS" */
    private static void sureWhateverTheOdds() {
        sure("9a;1b;1c;1d", "", 2);
        sure("1a;9b;9c;9d", "", 2);
        sure("9a;1a;1a", "", 3);
    }

    /** "NIGHTS aside" */
    private static void sureNightsAside() {
        NamedDwarf x = Scene.named(Scene.TEN_ALIKE);
        Scene.deal(x, 99, 99, 1, 0, 3);
        due.answer("ten nights, though there is one", x.sure(), 10);
        x.set(2, 12);
        due.answer("ten nights, though there are twelve", x.sure(), 10);
    }

    /** Six letters or none tell seven apart at once, eight not. */
    private static void sureOfSevenSounds() {
        sure("1a;1aa;1ab;1ac;1ad;1ae;1af", "", 2);
        sure("1a;1aa;1ab;1ac;1ad;1ae;1af;1ba", "", 3);
        sure("1a;1b;1c;1d;1e;1f", "", 2);
        // at 0 two are alike of a to d at most, which a listening or a guess more tells
        sure(Scene.TEN, "", 3);
    }

    /** "v is no less than WISEST from night 0 on of all that fit: 1, 0." */
    private static void spunNoLess() {
        NamedDwarf x = dealt("1a;1b", 1, 0, 10, 100);
        // 3/2
        due.answer("spun(1) of 3/2", x.spun(1), 0);
        due.answer("spun(2) of 3/2", x.spun(2), 1);
        x.set(1, 1);
        due.answer("spun(1) of 2", x.spun(1), 0);
        due.answer("spun(2) of 2", x.spun(2), 1);
        due.answer("spun(3) of 2", x.spun(3), 1);
        NamedDwarf one = Scene.named("1a");
        due.answer("spun(0) of 1", one.spun(0), 0);
        due.answer("spun(1) of 1", one.spun(1), 1);
        one.set(0, 99);
        due.answer("spun(98) of 99", one.spun(98), 0);
        due.answer("spun(99) of 99", one.spun(99), 1);
    }

    /** "v (0 to 99999)" */
    private static void spunBounds() {
        NamedDwarf x = Scene.named("1a");
        due.answer("spun(-1)", x.spun(-1), BAD);
        due.answer("spun(0)", x.spun(0), 0);
        due.answer("spun(99999)", x.spun(99999), 1);
        due.answer("spun(100000)", x.spun(100000), BAD);
        due.answer("spun(most)", x.spun(Scene.MOST_INT), BAD);
        due.answer("spun(least)", x.spun(Scene.LEAST_INT), BAD);
        x.wipe(0);
        due.answer("spun(0) of none", x.spun(0), NOT);
        due.answer("spun(99999) of none", x.spun(99999), NOT);
        due.answer("spun(-1) of none", x.spun(-1), BAD);
        due.answer("spun(100000) of none", x.spun(100000), BAD);
    }

    /** "of all that fit" */
    private static void spunOfThoseThatFit() {
        NamedDwarf x = Scene.named("1a;1b");
        due.answer("spun(1) of both", x.spun(1), 0);
        Scene.put(x, 1, "-a");
        due.answer("spun(1) of b", x.spun(1), 1);
        x.wipe(1);
        Scene.put(x, 2, "a");
        due.answer("spun(1) of a", x.spun(1), 1);
        Scene.put(x, 2, "c");
        due.answer("spun(1) of none", x.spun(1), NOT);
        Scene.put(x, 2, ".");
        due.answer("spun(1) of both again", x.spun(1), 0);
        due.answer("spun(2) of both again", x.spun(2), 1);
    }
}
