/**
 * The sentences that bound the texts: NAMES, PIECES, THE SONG, their FAULT, and promises 1 to 6.
 * Each has a test of its own, with the sentence above it and answers reckoned by hand.
 */
public final class TextBoundsTest {
    private static final int NONE = Scene.NONE, BAD = Scene.BAD, NOT = Scene.NOT, FULL = Scene.FULL;
    private static final String TEN = Scene.TEN, LONGEST_TEN = Scene.LONGEST_TEN;
    private static final String SIX = Scene.SIX_PIECES, LONGEST_SIX = Scene.LONGEST_SIX;
    private static final Due due = new Due("TextBoundsTest");

    public static void main(String[] args) {
        aNewObject();
        eightyBytes();
        tenNames();
        figures();
        nameLetters();
        nameLengths();
        semicolons();
        fortyBytes();
        sixPieces();
        signs();
        pieceLetters();
        pieceLengths();
        songBytes();
        songLetters();
        emptyIsWell();
        notEnded();
        firstByte();
        aLetterTooMany();
        theEleventhName();
        theSeventhPiece();
        namesAtFault();
        piecesAtFault();
        songAtFault();
        toldApartByNumbers();
        typeAnyByte();
        wipeAll();
        undoToNone();
        partsOfNames();
        due.end();
    }

    private static int faultOf(int text, String bytes) {
        NamedDwarf x = new NamedDwarf();
        Scene.more(x, text, bytes);
        return x.fault(text);
    }

    private static void fault(int text, String bytes, int place) {
        due.answer("fault(" + text + ") of " + bytes, faultOf(text, bytes), place);
    }

    /** Each of the 256 bytes behind a start: those of well go on (the text ends behind it, or is well), others do not. */
    private static void goesOn(int text, String start, String well, int faultBehind) {
        for (int b = 0; b <= 255; b++) {
            int want = well.indexOf(b) >= 0 ? faultBehind : start.length();
            due.answer("fault(" + text + ") of " + start + " and byte " + b, faultOf(text, start + (char) b), want);
        }
    }

    /** "Empty texts, no GUESSES; all SHEETS are LOST." */
    private static void aNewObject() {
        NamedDwarf x = new NamedDwarf();
        for (int what = 0; what <= 8; what++) {
            due.answer("new: count(" + what + ")", x.count(what), 0);
        }
        for (int text = 0; text < 3; text++) {
            due.answer("new: fault(" + text + ")", x.fault(text), NONE);
            due.answer("new: wipe(" + text + ")", x.wipe(text), 0);
            due.answer("new: undo(" + text + ")", x.undo(text), NOT);
        }
        due.answer("new: unguess()", x.unguess(), NOT);
        due.answer("new: fits()", x.fits(), 0);
        for (int s = 0; s < 4; s++) {
            due.answer("new: lose(" + s + ")", x.lose(s), Scene.NULL);
        }
    }

    /** "NAMES are a text of up to 80 bytes (text 0)": the 80th is taken, the 81st is not. */
    private static void eightyBytes() {
        NamedDwarf x = Scene.named(LONGEST_TEN);
        due.answer("ten names of six letters: bytes", x.count(3), 79);
        due.answer("ten names of six letters: well", x.fault(0), NONE);
        due.answer("ten names of six letters: names", x.count(0), 10);
        due.answer("the 80th byte", x.type(0, ';'), 80);
        due.answer("the 80th byte: not ended", x.fault(0), 80);
        due.answer("the 81st byte", x.type(0, '1'), FULL);
        due.answer("the 81st byte is not there", x.count(3), 80);
        due.answer("undone", x.undo(0), 79);
        due.answer("well again", x.count(0), 10);
        due.answer("a letter too many as the 80th", x.type(0, 'a'), 80);
        due.answer("a letter too many as the 80th", x.fault(0), 79);
        due.answer("full, again", x.type(0, 'a'), FULL);
    }

    /** "for each, 10 at most (0 on)" */
    private static void tenNames() {
        NamedDwarf x = new NamedDwarf();
        due.answer("no names", x.count(0), 0);
        due.answer("no name 0", x.name(0, NONE), BAD);
        for (int many = 1; many <= 10; many++) {
            int odds = many == 10 ? 1 : many;
            Scene.more(x, 0, (many == 1 ? "" : ";") + odds + "a");
            due.answer("so many names", x.count(0), many);
            due.answer("the last is there", x.name(many - 1, NONE), odds);
            due.answer("none behind the last", x.name(many, NONE), BAD);
        }
        Scene.more(x, 0, ";1a");
        due.answer("eleven: a fault", x.fault(0), 30);
        due.answer("eleven: none", x.count(0), 0);
    }

    /** "a figure, its ODDS (1 to 9)" */
    private static void figures() {
        goesOn(0, "", "123456789", 1);
        goesOn(0, "1a;", "123456789", 4);
        for (int odds = 1; odds <= 9; odds++) {
            due.answer("ODDS", Scene.named(odds + "f").name(0, NONE), odds);
        }
        fault(0, "12a", 1);
    }

    /** "letters a to f" */
    private static void nameLetters() {
        goesOn(0, "1", "abcdef", NONE);
        for (int letter = 0; letter < 6; letter++) {
            due.answer("letter " + letter, Scene.named("1" + (char) ('a' + letter)).name(0, 0), letter);
        }
        // behind a first letter a ; may stand, too, but then the text is not ended
        for (int b = 0; b <= 255; b++) {
            int want = b >= 'a' && b <= 'f' ? NONE : b == ';' ? 3 : 2;
            due.answer("fault(0) of 1a and byte " + b, faultOf(0, "1a" + (char) b), want);
        }
    }

    /** "then 1 to 6 letters" */
    private static void nameLengths() {
        fault(0, "1", 1);
        fault(0, "1;2a", 1);
        String letters = "fedcba";
        for (int many = 1; many <= 6; many++) {
            NamedDwarf x = Scene.named("1" + letters.substring(0, many));
            due.answer("letters: well", x.fault(0), NONE);
            due.answer("letters", x.name(0, -2), many);
            due.answer("the last letter", x.name(0, many - 1), 6 - many);
            due.answer("none behind the last", many == 6 ? NONE : x.name(0, many), NONE);
        }
        fault(0, "1fedcbaf", 7);
        fault(0, "2a;1fedcbaf;2a", 10);
    }

    /** "with ; between them" */
    private static void semicolons() {
        fault(0, ";1a", 0);
        fault(0, "1a;2b", NONE);
        fault(0, "1a;;2b", 3);
        fault(0, "1a2b", 2);
        fault(0, "1a,2b", 2);
        fault(0, "1a;", 3);
        fault(1, ";+a", 0);
        fault(1, "+a;-b", NONE);
        fault(1, "+a;;-b", 3);
        fault(1, "+a-b", 2);
        fault(1, "+a;", 3);
    }

    /** "PIECES are a text of up to 40 bytes (text 1)" */
    private static void fortyBytes() {
        NamedDwarf x = Scene.dwarf("1a", LONGEST_SIX, "");
        due.answer("six pieces of three letters: bytes", x.count(4), 29);
        due.answer("six pieces of three letters", x.count(1), 6);
        for (int b = 30; b <= 40; b++) {
            due.answer("byte " + b, x.type(1, ';'), b);
        }
        due.answer("the 41st byte", x.type(1, ';'), FULL);
        due.answer("the 41st byte is not there", x.count(4), 40);
        due.answer("the fault stays", x.fault(1), 30);
        due.answer("undone", x.undo(1), 39);
        due.answer("one again", x.type(1, 0), 40);
        due.answer("and none more", x.type(1, 0), FULL);
    }

    /** "for each, 6 at most (0 on), with ; between them" */
    private static void sixPieces() {
        NamedDwarf x = new NamedDwarf();
        due.answer("no pieces", x.count(1), 0);
        due.answer("no piece 0", x.heard(0), BAD);
        for (int many = 1; many <= 6; many++) {
            Scene.more(x, 1, many == 1 ? "+a" : ";+a");
            due.answer("so many pieces", x.count(1), many);
            due.answer("the last is there", x.heard(many - 1), 0);
            due.answer("none behind the last", x.heard(many), BAD);
        }
        Scene.more(x, 1, ";+a");
        due.answer("seven: a fault", x.fault(1), 18);
        due.answer("seven: none", x.count(1), 0);
        due.answer("seven: none", x.heard(0), BAD);
    }

    /** "+ or -" */
    private static void signs() {
        goesOn(1, "", "+-", 1);
        goesOn(1, "+a;", "+-", 4);
        due.answer("+", Scene.dwarf("1a;1b", "+a", "").heard(0), 1);
        due.answer("-", Scene.dwarf("1a;1b", "-a", "").heard(0), 2);
    }

    /** "letters a to f", of a piece */
    private static void pieceLetters() {
        goesOn(1, "+", "abcdef", NONE);
        goesOn(1, "-", "abcdef", NONE);
        for (int b = 0; b <= 255; b++) {
            int want = b >= 'a' && b <= 'f' ? NONE : b == ';' ? 3 : 2;
            due.answer("fault(1) of -a and byte " + b, faultOf(1, "-a" + (char) b), want);
        }
    }

    /** "then 1 to 3 letters" */
    private static void pieceLengths() {
        fault(1, "+", 1);
        fault(1, "+;-a", 1);
        fault(1, "+a", NONE);
        fault(1, "+ab", NONE);
        fault(1, "+abc", NONE);
        fault(1, "+abcd", 4);
        fault(1, "-a;+abca;+a", 7);
        due.answer("three letters, the last of them unlike", Scene.dwarf("1abc;1abd", "+abd", "").heard(0), 2);
    }

    /** "THE SONG (text 2) is up to 6 bytes" */
    private static void songBytes() {
        NamedDwarf x = Scene.named("1abcdef;1abcde");
        for (int many = 1; many <= 6; many++) {
            due.answer("byte " + many, x.type(2, '.'), many);
            due.answer("how long", x.count(2), many);
            due.answer("well", x.fault(2), NONE);
            due.answer("what fits", x.fits(), many == 6 ? 1 : many == 5 ? 2 : 0);
        }
        due.answer("the 7th byte", x.type(2, '.'), FULL);
        due.answer("how long", x.count(2), 6);
        due.answer("bytes", x.count(5), 6);
        due.answer("well", x.fault(2), NONE);
        due.answer("what fits", x.fits(), 1);
    }

    /** "letters a to f or . (any)" */
    private static void songLetters() {
        goesOn(2, "", "abcdef.", NONE);
        goesOn(2, "a", "abcdef.", NONE);
        goesOn(2, "f....", "abcdef.", NONE);
    }

    /** "The FAULT of a text ... (an empty one is well" */
    private static void emptyIsWell() {
        for (int text = 0; text < 3; text++) {
            fault(text, "", NONE);
            NamedDwarf x = new NamedDwarf();
            x.type(text, 'x');
            due.answer("not well", x.fault(text), 0);
            x.undo(text);
            due.answer("empty by undo", x.fault(text), NONE);
            x.type(text, 'x');
            x.wipe(text);
            due.answer("empty by wipe", x.fault(text), NONE);
        }
    }

    /** "of one that is not ended, as behind a ;, its end" */
    private static void notEnded() {
        fault(0, "1", 1);
        fault(0, "1abcdef;", 8);
        fault(0, "1a;2", 4);
        fault(0, LONGEST_TEN + ";", 80);
        fault(0, LONGEST_TEN.substring(0, 72), 72);
        fault(0, LONGEST_TEN.substring(0, 73), 73);
        fault(1, "+", 1);
        fault(1, "-abc;", 5);
        fault(1, "-a;-", 4);
        fault(1, LONGEST_SIX + ";", 30);
        fault(1, LONGEST_SIX.substring(0, 25), 25);
        fault(1, LONGEST_SIX.substring(0, 26), 26);
    }

    /** "the place of the first byte with which it cannot go on" */
    private static void firstByte() {
        fault(0, "1a;0b;xx;1abcdefff", 3);
        fault(0, "x1a;2b", 0);
        fault(0, "1a;2b;3ag", 8);
        fault(0, "1a ;2b", 2);
        fault(1, "+a;*b;+abcd", 3);
        fault(1, "+a;-g", 4);
        fault(2, "ab.g.g", 3);
        fault(2, "abcde-", 5);
        fault(2, ";;", 0);
    }

    /** "here also of a letter too many" */
    private static void aLetterTooMany() {
        fault(0, "1abcdef", NONE);
        fault(0, "1abcdefa", 7);
        fault(0, "1abcdefab;1", 7);
        fault(0, "1a;9fffffff", 10);
        fault(0, LONGEST_TEN + "a", 79);
        fault(1, "+abc", NONE);
        fault(1, "+abca", 4);
        fault(1, "+a;-bbbb;+a", 7);
        fault(1, LONGEST_SIX + "a", 29);
    }

    /** "or of the first byte of an eleventh NAME ... (the one behind its ;)" */
    private static void theEleventhName() {
        fault(0, TEN, NONE);
        fault(0, TEN + ";", 34);
        fault(0, TEN + ";1", 34);
        fault(0, TEN + ";1a", 34);
        fault(0, TEN + ";x", 34);
        fault(0, TEN + ";;", 34);
        fault(0, TEN + ";1a;1", 34);
        fault(0, TEN + "x", 33);
        due.answer("ten there", Scene.named(TEN).count(0), 10);
    }

    /** "a seventh PIECE (the one behind its ;)" */
    private static void theSeventhPiece() {
        fault(1, SIX, NONE);
        fault(1, SIX + ";", 18);
        fault(1, SIX + ";+", 18);
        fault(1, SIX + ";+a", 18);
        fault(1, SIX + ";x", 18);
        fault(1, SIX + ";;", 18);
        fault(1, SIX + "x", 17);
        due.answer("six there", Scene.dwarf("", SIX, "").count(1), 6);
    }

    /** "With a FAULT a text is as if it was empty (count() 3 to 5 tell its bytes all the same)", of NAMES. */
    private static void namesAtFault() {
        NamedDwarf x = Scene.dwarf("1ab;1ac", "+a", "..");
        due.answer("both fit", x.fits(), 3);
        due.answer("type", x.type(0, 'g'), 8);
        due.answer("count(0)", x.count(0), 0);
        due.answer("count(3)", x.count(3), 8);
        due.answer("count(7)", x.count(7), 0);
        due.answer("fits()", x.fits(), 0);
        due.answer("heard(0)", x.heard(0), 0);
        due.answer("name(0, -1)", x.name(0, NONE), BAD);
        due.answer("off(0)", x.off(0), BAD);
        due.answer("named(0, 0)", x.named(0, 0), BAD);
        due.answer("chance(0, 0)", x.chance(0, 0), Scene.LONG_BAD);
        due.answer("row(0)", x.row(0), NONE);
        due.answer("wisest(0, 3, 2)", x.wisest(0, 3, 2), NONE);
        due.answer("sure()", x.sure(), 0);
        due.answer("sung(1, 0)", x.sung(1, 0), BAD);
        due.answer("changes(0, 0)", x.changes(0, 0), BAD);
        due.answer("the others are well", x.count(1) + x.count(2), 3);
        due.answer("undo", x.undo(0), 7);
        due.answer("both fit again", x.fits(), 3);
    }

    /** The same, of PIECES. */
    private static void piecesAtFault() {
        NamedDwarf x = Scene.dwarf("1ab;1ba", "+ab", "");
        due.answer("one fits", x.fits(), 1);
        due.answer("type", x.type(1, ';'), 4);
        due.answer("count(1)", x.count(1), 0);
        due.answer("count(4)", x.count(4), 4);
        due.answer("fits()", x.fits(), 3);
        due.answer("heard(0)", x.heard(0), BAD);
        due.answer("pool(1, 0, 0)", x.pool(1, 0, 0), 2);
        due.answer("shortest(1)", x.shortest(1), 0);
        due.answer("undo", x.undo(1), 3);
        due.answer("one fits again", x.fits(), 1);
    }

    /** The same, of THE SONG. */
    private static void songAtFault() {
        NamedDwarf x = Scene.dwarf("1ab;1ba", "", "a.");
        due.answer("one fits", x.fits(), 1);
        due.answer("type", x.type(2, 'A'), 3);
        due.answer("count(2)", x.count(2), 0);
        due.answer("count(5)", x.count(5), 3);
        due.answer("fits()", x.fits(), 3);
        due.answer("pool(0, 0, 2)", x.pool(0, 0, 2), 2);
        due.answer("wipe", x.wipe(2), 3);
        due.answer("count(5)", x.count(5), 0);
    }

    /** "NAMES are told apart by their numbers alone." */
    private static void toldApartByNumbers() {
        NamedDwarf x = Scene.named("1ab;1ab;1ab");
        due.answer("three names", x.count(0), 3);
        due.answer("three fit", x.fits(), 7);
        due.answer("each a third", x.chance(1, 1), 3);
        Scene.guess(x, 1);
        due.answer("0 is not named", x.named(0, 0), NONE);
        due.answer("1 is named", x.named(1, 0), 0);
        due.answer("2 is not named", x.named(2, 0), NONE);
        due.answer("three nights", x.sure(), 3);
        NamedDwarf y = Scene.dwarf("1a", "+a;+a", "");
        due.answer("two pieces of the same letters", y.count(1), 2);
    }

    /** "A byte (0 to 255) comes behind a text: how many." */
    private static void typeAnyByte() {
        for (int b = 0; b <= 255; b++) {
            NamedDwarf x = new NamedDwarf();
            due.answer("type(0, " + b + ")", x.type(0, b), 1);
            due.answer("type(1, " + b + ")", x.type(1, b), 1);
            due.answer("type(2, " + b + ")", x.type(2, b), 1);
        }
        NamedDwarf x = new NamedDwarf();
        due.answer("type(0, -1)", x.type(0, -1), BAD);
        due.answer("type(0, 256)", x.type(0, 256), BAD);
        due.answer("type(0, 256 and 49): not cut", x.type(0, 305), BAD);
        due.answer("none came", x.count(3), 0);
        int[] limits = {80, 40, 6};
        for (int text = 0; text < 3; text++) {
            for (int many = 1; many <= limits[text]; many++) {
                due.answer("type(" + text + ")", x.type(text, 255), many);
            }
            due.answer("type(" + text + "), full", x.type(text, 255), FULL);
            due.answer("type(" + text + "), BAD ahead of FULL", x.type(text, -1), BAD);
        }
    }

    /** "A text is empty: how many bytes it had." */
    private static void wipeAll() {
        NamedDwarf x = Scene.dwarf(LONGEST_TEN + "x", LONGEST_SIX + "xxxxxxxxxxx", "abcdef");
        int[] had = {80, 40, 6};
        for (int text = 0; text < 3; text++) {
            due.answer("wipe of a full one", x.wipe(text), had[text]);
            due.answer("wipe of an empty one", x.wipe(text), 0);
            due.answer("undo of an empty one", x.undo(text), NOT);
            due.answer("a first byte again", x.type(text, 'b'), 1);
        }
        due.answer("the song is of that byte alone", x.count(2), 1);
    }

    /** "The last byte of a text is undone: how many are left. ... NOT: it is empty." */
    private static void undoToNone() {
        NamedDwarf x = Scene.dwarf(LONGEST_TEN + ";", LONGEST_SIX, "......");
        int[] had = {80, 29, 6};
        for (int text = 0; text < 3; text++) {
            for (int left = had[text] - 1; left >= 0; left--) {
                due.answer("undo(" + text + ")", x.undo(text), left);
            }
            due.answer("undo(" + text + "), empty", x.undo(text), NOT);
            due.answer("undo(" + text + "), empty still", x.undo(text), NOT);
            due.answer("no bytes", x.count(3 + text), 0);
        }
    }

    /** "Of a NAME: ODDS (i = NONE), how long (-2), the i-th letter (i 0 to 5 ...; NONE: it is shorter)." */
    private static void partsOfNames() {
        NamedDwarf x = Scene.named("9f;1fedcba");
        due.answer("ODDS of 0", x.name(0, -1), 9);
        due.answer("ODDS of 1", x.name(1, -1), 1);
        due.answer("how long 0 is", x.name(0, -2), 1);
        due.answer("how long 1 is", x.name(1, -2), 6);
        due.answer("i -3", x.name(1, -3), BAD);
        due.answer("i 0 of 0", x.name(0, 0), 5);
        due.answer("i 1 of 0: shorter", x.name(0, 1), NONE);
        due.answer("i 5 of 0: shorter", x.name(0, 5), NONE);
        for (int i = 0; i < 6; i++) {
            due.answer("i " + i + " of 1", x.name(1, i), 5 - i);
        }
        due.answer("i 6", x.name(1, 6), BAD);
        due.answer("i 6 of a shorter one", x.name(0, 6), BAD);
        due.answer("name 2", x.name(2, 0), BAD);
        due.answer("name -1", x.name(-1, 0), BAD);
        NamedDwarf ten = Scene.named(LONGEST_TEN);
        due.answer("the tenth's last letter", ten.name(9, 5), 3);
        due.answer("an eleventh", ten.name(10, 5), BAD);
    }
}
