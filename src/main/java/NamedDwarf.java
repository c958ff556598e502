import java.util.Arrays;

/**
 * A dwarf spins straw to gold for whoever promises, and the promise doubles each night till he is
 * called by his right name: which names fit what was heard, and how best to find the right one.
 */
public final class NamedDwarf {
    public static final int NONE = -1, BAD = -2, NOT = -3, FULL = -4;

    private static final int NULL = 1, INDEX = 2, CAST = 3, STORE = 4, SIZE = 5;
    private static final int MOST_NAMES = 10, PLACES = 6, LETTERS = 6, SOUNDS = LETTERS + 1;
    private static final int ALL_NAMES = (1 << MOST_NAMES) - 1;
    private static final int MOST_PIECES = 6, PIECE_LETTERS = 3;
    private static final int ALL_PIECES = (1 << MOST_PIECES) - 1;
    private static final int TEXTS = 3, NAMES_TEXT = 0, PIECES_TEXT = 1, SONG_TEXT = 2;
    private static final int MOST_NIGHTS = 12, MOST_GUESSES = 12;
    private static final int SHEETS = 4, FORMS = 3, MOST_ITEMS = 60;
    private static final int DONE = 1;
    // of Integer and Long the language lists functions alone, so the ends are told here
    private static final int LEAST_INT = 1 << 31, MOST_INT = ~LEAST_INT;
    private static final long LEAST_LONG = 1L << 63;

    private final Text[] texts = {new Text(80), new Text(40), new Text(6)};
    private final Names names = new Names();
    private final Pieces pieces = new Pieces();
    private final Song song = new Song();
    private final Fitting fitting = new Fitting();
    private final Deal deal = new Deal();
    private final Guesses guesses = new Guesses();
    private final Wise wise = new Wise(names, deal);
    private final Spy spy = new Spy(names);
    private final Sheet[] sheets = {new Sheet(), new Sheet(), new Sheet(), new Sheet()};
    private boolean stale = true;
    private int finding;

    public NamedDwarf() {
    }

    // ---- names, pieces, promise

    public int type(int text, int b) {
        if (!isText(text) || b < 0 || b > 255) {
            return BAD;
        }
        if (texts[text].isFull()) {
            return FULL;
        }
        texts[text].append(b);
        forget(text);
        return texts[text].size();
    }

    public int wipe(int text) {
        if (!isText(text)) {
            return BAD;
        }
        int had = texts[text].size();
        texts[text].empty();
        forget(text);
        return had;
    }

    public int undo(int text) {
        if (!isText(text)) {
            return BAD;
        }
        if (texts[text].size() == 0) {
            return NOT;
        }
        texts[text].dropLast();
        forget(text);
        return texts[text].size();
    }

    public int fault(int text) {
        if (!isText(text)) {
            return BAD;
        }
        refresh();
        if (text == NAMES_TEXT) {
            return names.faultPlace();
        }
        return text == PIECES_TEXT ? pieces.faultPlace() : song.faultPlace();
    }

    public int name(int name, int i) {
        refresh();
        if (!names.has(name) || i < -2 || i >= PLACES) {
            return BAD;
        }
        if (i == -2) {
            return names.lengthOf(name);
        }
        return i == NONE ? names.oddsOf(name) : names.letterAt(name, i);
    }

    public int set(int what, int v) {
        if (!deal.allows(what, v)) {
            return BAD;
        }
        wise.forgetAll();
        return deal.exchange(what, v);
    }

    public int guess(int name) {
        if (!mayBeGuessed(name)) {
            return BAD;
        }
        if (guesses.isFull()) {
            return FULL;
        }
        guesses.append(name);
        return guesses.size();
    }

    public int unguess() {
        if (guesses.size() == 0) {
            return NOT;
        }
        guesses.dropLast();
        return guesses.size();
    }

    public int read(int s) {
        if (!isSheet(s)) {
            return BAD;
        }
        Sheet sheet = sheets[s];
        if (sheet.isLost()) {
            return found(NULL);
        }
        guesses.empty();
        for (int i = 0; i < sheet.size(); i++) {
            if (guesses.isFull() || !mayBeGuessed(sheet.item(i))) {
                break;
            }
            guesses.append(sheet.item(i));
        }
        return guesses.size();
    }

    // ---- which he is

    public int fits() {
        refresh();
        return fitting.byAll();
    }

    public long chance(int name, int what) {
        refresh();
        if (!names.has(name) || !isZeroOrOne(what)) {
            return asLong(BAD);
        }
        int fit = fitting.byAll();
        if (fit == 0) {
            return asLong(NOT);
        }
        int above = (fit & 1 << name) == 0 ? 0 : names.oddsOf(name);
        return lowestTerm(above, names.oddsOfAll(fit), what);
    }

    public int heard(int piece) {
        refresh();
        return pieces.has(piece) ? fitting.byPiece(piece) : BAD;
    }

    public int off(int name) {
        refresh();
        return names.has(name) ? names.oneLetterFrom(name) : BAD;
    }

    public int named(int name, int what) {
        refresh();
        if (!names.has(name) || !isZeroOrOne(what)) {
            return BAD;
        }
        int turn = guesses.firstTurnOf(name, deal.turns());
        if (what == 1) {
            return deal.paidAt(turn, guesses.size());
        }
        return turn == NONE ? NONE : deal.nightOf(turn);
    }

    // ---- rows, the wisest

    public int row(int i) {
        if (i < 0 || i >= MOST_NAMES) {
            return BAD;
        }
        refresh();
        return fitting.inRow(i);
    }

    public long mean(int what) {
        if (!isZeroOrOne(what)) {
            return asLong(BAD);
        }
        refresh();
        int many = fitting.rowSize();
        if (many == 0) {
            return asLong(NOT);
        }
        int paid = 0;
        for (int turn = 0; turn < many; turn++) {
            paid += names.oddsOf(fitting.inRow(turn)) * deal.paidAt(turn, many);
        }
        return lowestTerm(paid, names.oddsOfAll(fitting.byAll()), what);
    }

    public long wisest(int night, int names, int what) {
        if (night < 0 || night > deal.nights() || !isNameBits(names) || what < 0 || what > 2) {
            return asLong(BAD);
        }
        refresh();
        wise.makeReady();
        int left = names & this.names.all();
        if (what == 2) {
            return wise.firstAct(night, left);
        }
        if (left == 0) {
            return what;
        }
        return lowestTerm(wise.leastFrom(night, left), this.names.oddsOfAll(left), what);
    }

    public int listen(int what) {
        if (!isZeroOrOne(what)) {
            return BAD;
        }
        refresh();
        int fit = fitting.byAll();
        if (fit == 0) {
            return NOT;
        }
        int place = spy.bestPlace(fit);
        return what == 0 ? place : spy.leftAtWorst(fit, place);
    }

    public int sure() {
        refresh();
        return spy.nightsAtWorst(fitting.byAll());
    }

    // ---- worth, pools, songs

    public int spun(int v) {
        if (v < 0 || v > 99999) {
            return BAD;
        }
        refresh();
        int fit = fitting.byAll();
        if (fit == 0) {
            return NOT;
        }
        wise.makeReady();
        return v * (long) names.oddsOfAll(fit) >= wise.leastFrom(0, fit) ? 1 : 0;
    }

    public int pool(int a, int b, int what) {
        if (!isPieceBits(a) || !isPieceBits(b) || what < 0 || what > 2) {
            return BAD;
        }
        refresh();
        if (what == 2) {
            return Integer.bitCount(fitting.by(a | b));
        }
        return Integer.bitCount(fitting.by(what == 0 ? a : b));
    }

    public int shortest(int what) {
        if (!isZeroOrOne(what)) {
            return BAD;
        }
        refresh();
        int bits = fitting.fewestPieces();
        return what == 0 ? Integer.bitCount(bits) : bits;
    }

    public int sung(int names, int i) {
        if (!isNameBits(names) || i < 0 || i >= PLACES) {
            return BAD;
        }
        refresh();
        int told = names & this.names.all();
        return told == 0 ? BAD : this.names.songByte(told, i);
    }

    public int changes(int from, int to) {
        refresh();
        if (!names.has(from) || !names.has(to)) {
            return BAD;
        }
        int reached = 1 << from;
        for (int steps = 0; steps < MOST_NAMES; steps++) {
            if ((reached & 1 << to) != 0) {
                return steps;
            }
            reached |= names.oneLetterFromAny(reached);
        }
        return NONE;
    }

    // ---- sheets

    public int sheet(int s, int form, int n) {
        if (!isSheet(s) || !isForm(form) || n > MOST_ITEMS) {
            return BAD;
        }
        if (n < 0) {
            return found(SIZE);
        }
        sheets[s].begin(form, n);
        return n;
    }

    public int lose(int s) {
        if (!isSheet(s)) {
            return BAD;
        }
        if (sheets[s].isLost()) {
            return found(NULL);
        }
        int had = sheets[s].size();
        sheets[s].become(NONE);
        return had;
    }

    public int lay(int s, int form, int i, int v) {
        int answer = lookFor(s, form, i);
        if (answer == DONE) {
            sheets[s].put(i, v);
        }
        return answer;
    }

    public int get(int s, int form, int i) {
        return lookFor(s, form, i) == DONE ? sheets[s].item(i) : LEAST_INT;
    }

    public int copy(int s, int i, int t, int j, int n) {
        if (!isSheet(s) || !isSheet(t)) {
            return BAD;
        }
        Sheet from = sheets[s];
        Sheet to = sheets[t];
        if (from.isLost() || to.isLost()) {
            return found(NULL);
        }
        if (from.form() != to.form()) {
            return found(STORE);
        }
        if (!from.holds(i, n) || !to.holds(j, n)) {
            return found(INDEX);
        }
        to.take(from, i, j, n);
        return DONE;
    }

    public int write(int s) {
        if (!isSheet(s)) {
            return BAD;
        }
        if (sheets[s].isLost()) {
            return found(NULL);
        }
        refresh();
        int many = Math.min(sheets[s].size(), fitting.rowSize());
        for (int i = 0; i < many; i++) {
            sheets[s].put(i, fitting.inRow(i));
        }
        return many;
    }

    public int count(int what) {
        if (what < 0 || what > 8) {
            return BAD;
        }
        if (what >= 3 && what < 3 + TEXTS) {
            return texts[what - 3].size();
        }
        refresh();
        switch (what) {
            case 0:
                return names.size();
            case 1:
                return pieces.size();
            case 2:
                return song.size();
            case 6:
                return guesses.size();
            case 7:
                return Integer.bitCount(fitting.byAll());
            default:
                return finding;
        }
    }

    public long digest() {
        long h = 17;
        for (int what = 0; what <= 7; what++) {
            h = mix(h, count(what));
        }
        for (int text = 0; text < TEXTS; text++) {
            h = mix(h, fault(text));
        }
        h = mix(h, fits());
        for (int name = 0; name < names.size(); name++) {
            h = mixName(h, name);
        }
        for (int piece = 0; piece < pieces.size(); piece++) {
            h = mix(h, heard(piece));
        }
        return mixWorth(mixRow(h));
    }

    private long mixName(long sum, int name) {
        long h = mix(sum, name(name, -2));
        h = mix(h, name(name, NONE));
        h = mix(h, name(name, 0));
        h = mix(h, chance(name, 0));
        h = mix(h, chance(name, 1));
        h = mix(h, off(name));
        h = mix(h, named(name, 0));
        h = mix(h, named(name, 1));
        return mix(h, changes(0, name));
    }

    private long mixRow(long sum) {
        long h = sum;
        for (int i = 0; i < MOST_NAMES; i++) {
            h = mix(h, row(i));
        }
        h = mix(h, mean(0));
        h = mix(h, mean(1));
        for (int what = 0; what <= 2; what++) {
            h = mix(h, wisest(0, fitting.byAll(), what));
        }
        h = mix(h, wisest(2, 7, 0));
        h = mix(h, listen(0));
        h = mix(h, listen(1));
        return mix(h, sure());
    }

    private long mixWorth(long sum) {
        long h = mix(sum, spun(99));
        for (int what = 0; what <= 2; what++) {
            h = mix(h, pool(1, 2, what));
        }
        h = mix(h, shortest(0));
        h = mix(h, shortest(1));
        return mix(h, sung(3, 0));
    }

    private static long mix(long h, long answer) {
        return 31 * h + answer;
    }

    /** What was told by a text is told anew when it is next asked for, not at each byte typed. */
    private void forget(int text) {
        stale = true;
        if (text == NAMES_TEXT) {
            wise.forgetAll();
            spy.forgetAll();
        }
    }

    private void refresh() {
        if (stale) {
            stale = false;
            names.parse(texts[NAMES_TEXT]);
            pieces.parse(texts[PIECES_TEXT]);
            song.parse(texts[SONG_TEXT]);
            fitting.update(names, pieces, song);
        }
    }

    private int found(int number) {
        finding = number;
        return -10 - number;
    }

    /** What lay() and get() refuse alike, or DONE. */
    private int lookFor(int s, int form, int i) {
        if (!isSheet(s) || !isForm(form)) {
            return BAD;
        }
        if (sheets[s].isLost()) {
            return found(NULL);
        }
        if (sheets[s].form() != form) {
            return found(CAST);
        }
        return sheets[s].holds(i, 1) ? DONE : found(INDEX);
    }

    private static boolean isText(int text) {
        return text >= 0 && text < TEXTS;
    }

    private static boolean isSheet(int s) {
        return s >= 0 && s < SHEETS;
    }

    private static boolean isForm(int form) {
        return form >= 0 && form < FORMS;
    }

    private static boolean isNameBits(int bits) {
        return bits >= 0 && bits <= ALL_NAMES;
    }

    private static boolean isPieceBits(int bits) {
        return bits >= 0 && bits <= ALL_PIECES;
    }

    private static boolean isZeroOrOne(int what) {
        return what == 0 || what == 1;
    }

    /** Whether there is a NAME of it or not: such a one is a wrong guess. */
    private static boolean mayBeGuessed(int name) {
        return name >= 0 && name < MOST_NAMES;
    }

    private static long asLong(int refusal) {
        return LEAST_LONG - refusal;
    }

    private static int letterOf(int b) {
        return b >= 'a' && b <= 'f' ? b - 'a' : NONE;
    }

    /** Of a fraction in lowest terms what is above (0) or below (1). */
    private static int lowestTerm(int above, int below, int what) {
        int divisor = greatestDivisor(above, below);
        if (divisor == 0) {
            return what;
        }
        return (what == 0 ? above : below) / divisor;
    }

    private static int greatestDivisor(int a, int b) {
        int greater = a;
        int rest = b;
        // Euclid's steps are at most 46 for ints
        for (int step = 0; step < 100 && rest != 0; step++) {
            int next = greater % rest;
            greater = rest;
            rest = next;
        }
        return greater;
    }

    /** The bytes of a text as they were typed. */
    private static final class Text {
        private final int[] bytes;
        private int size;

        Text(int limit) {
            bytes = new int[Math.max(0, limit)];
        }

        int size() {
            return size;
        }

        boolean isFull() {
            return size >= bytes.length;
        }

        void append(int b) {
            if (size >= 0 && size < bytes.length) {
                bytes[size] = b;
                size++;
            }
        }

        void dropLast() {
            if (size > 0) {
                size--;
            }
        }

        void empty() {
            size = 0;
        }

        /** NONE behind the last one. */
        int byteAt(int place) {
            if (place < 0 || place >= size || place >= bytes.length) {
                return NONE;
            }
            return bytes[place];
        }
    }

    /** What text 0 says. */
    private static final class Names {
        private final int[] odds = new int[MOST_NAMES];
        private final int[] lengths = new int[MOST_NAMES];
        private final int[] letters = new int[MOST_NAMES * PLACES];
        private final int[] alike = new int[PLACES * SOUNDS];
        private final int[] oddsTogether = new int[ALL_NAMES + 1];
        private int size;
        private int fault = NONE;

        void parse(Text text) {
            size = 0;
            fault = scan(text);
            if (fault != NONE) {
                size = 0;
            }
            groupBySound();
            addOdds();
        }

        private int scan(Text text) {
            int place = 0;
            if (text.size() == 0) {
                return NONE;
            }
            for (int name = 0; name < MOST_NAMES; name++) {
                int figure = text.byteAt(place);
                if (figure < '1' || figure > '9') {
                    return place;
                }
                place++;
                int length = takeLetters(text, place, name);
                place += length;
                if (length == 0) {
                    return place;
                }
                odds[name] = figure - '0';
                lengths[name] = length;
                size = name + 1;
                if (place == text.size()) {
                    return NONE;
                }
                if (text.byteAt(place) != ';') {
                    return place;
                }
                place++;
            }
            return place;
        }

        private int takeLetters(Text text, int place, int name) {
            for (int i = 0; i < PLACES; i++) {
                int letter = letterOf(text.byteAt(place + i));
                if (letter == NONE) {
                    return i;
                }
                letters[name * PLACES + i] = letter;
            }
            return PLACES;
        }

        private void groupBySound() {
            Arrays.fill(alike, 0);
            for (int place = 0; place < PLACES; place++) {
                for (int name = 0; name < size; name++) {
                    alike[place * SOUNDS + letterAt(name, place) + 1] |= 1 << name;
                }
            }
        }

        private void addOdds() {
            for (int name = 0; name < size; name++) {
                int bit = 1 << name;
                for (int less = 0; less < bit; less++) {
                    oddsTogether[bit | less] = oddsTogether[less] + odds[name];
                }
            }
        }

        int size() {
            return size;
        }

        int faultPlace() {
            return fault;
        }

        int all() {
            return (1 << size) - 1;
        }

        boolean has(int name) {
            return name >= 0 && name < size;
        }

        int oddsOf(int name) {
            return name >= 0 && name < size ? odds[name] : 0;
        }

        int oddsOfAll(int bits) {
            return oddsTogether[bits & (1 << size) - 1];
        }

        int lengthOf(int name) {
            return name >= 0 && name < size ? lengths[name] : 0;
        }

        /** NONE behind the last one. */
        int letterAt(int name, int place) {
            if (name < 0 || name >= size || place < 0 || place >= lengths[name]) {
                return NONE;
            }
            return letters[name * PLACES + place];
        }

        /** The names, as bits, of which a letter (NONE: no letter) is at a place. */
        int soundingAt(int place, int letter) {
            if (place < 0 || place >= PLACES || letter < NONE || letter >= LETTERS) {
                return 0;
            }
            return alike[place * SOUNDS + letter + 1];
        }

        int oneLetterFrom(int name) {
            int once = 0;
            int oftener = 0;
            for (int place = 0; place < PLACES; place++) {
                int unlike = all() & ~soundingAt(place, letterAt(name, place));
                oftener |= once & unlike;
                once |= unlike;
            }
            return once & ~oftener & asLongAs(name);
        }

        int oneLetterFromAny(int bits) {
            int reached = 0;
            for (int name = 0; name < size; name++) {
                if ((bits & 1 << name) != 0) {
                    reached |= oneLetterFrom(name);
                }
            }
            return reached;
        }

        private int asLongAs(int name) {
            int bits = 0;
            for (int other = 0; other < size; other++) {
                if (lengths[other] == lengthOf(name)) {
                    bits |= 1 << other;
                }
            }
            return bits;
        }

        /** The i-th byte of the song that told names make together; NONE. */
        int songByte(int told, int i) {
            int length = commonLength(told);
            if (i < 0 || i >= length) {
                return NONE;
            }
            for (int letter = 0; letter < LETTERS; letter++) {
                if ((told & ~soundingAt(i, letter)) == 0) {
                    return 'a' + letter;
                }
            }
            return '.';
        }

        /** 0 of names that are unlike long. */
        private int commonLength(int told) {
            int length = 0;
            for (int name = 0; name < size; name++) {
                if ((told & 1 << name) != 0) {
                    if (length != 0 && length != lengths[name]) {
                        return 0;
                    }
                    length = lengths[name];
                }
            }
            return length;
        }
    }

    /** What text 1 says. */
    private static final class Pieces {
        private final boolean[] inside = new boolean[MOST_PIECES];
        private final int[] lengths = new int[MOST_PIECES];
        private final int[] letters = new int[MOST_PIECES * PIECE_LETTERS];
        private int size;
        private int fault = NONE;

        void parse(Text text) {
            size = 0;
            fault = scan(text);
            if (fault != NONE) {
                size = 0;
            }
        }

        private int scan(Text text) {
            int place = 0;
            if (text.size() == 0) {
                return NONE;
            }
            for (int piece = 0; piece < MOST_PIECES; piece++) {
                int sign = text.byteAt(place);
                if (sign != '+' && sign != '-') {
                    return place;
                }
                place++;
                int length = takeLetters(text, place, piece);
                place += length;
                if (length == 0) {
                    return place;
                }
                inside[piece] = sign == '+';
                lengths[piece] = length;
                size = piece + 1;
                if (place == text.size()) {
                    return NONE;
                }
                if (text.byteAt(place) != ';') {
                    return place;
                }
                place++;
            }
            return place;
        }

        private int takeLetters(Text text, int place, int piece) {
            for (int i = 0; i < PIECE_LETTERS; i++) {
                int letter = letterOf(text.byteAt(place + i));
                if (letter == NONE) {
                    return i;
                }
                letters[piece * PIECE_LETTERS + i] = letter;
            }
            return PIECE_LETTERS;
        }

        int size() {
            return size;
        }

        int faultPlace() {
            return fault;
        }

        boolean has(int piece) {
            return piece >= 0 && piece < size;
        }

        boolean isTrueOf(int piece, Names names, int name) {
            if (piece < 0 || piece >= size) {
                return false;
            }
            int lastStart = names.lengthOf(name) - lengths[piece];
            for (int start = 0; start <= lastStart; start++) {
                if (isAt(piece, names, name, start)) {
                    return inside[piece];
                }
            }
            return !inside[piece];
        }

        private boolean isAt(int piece, Names names, int name, int start) {
            for (int i = 0; i < lengths[piece]; i++) {
                if (names.letterAt(name, start + i) != letters[piece * PIECE_LETTERS + i]) {
                    return false;
                }
            }
            return true;
        }
    }

    /** What text 2 says. */
    private static final class Song {
        private final int[] letters = new int[PLACES];
        private int size;
        private int fault = NONE;

        void parse(Text text) {
            size = 0;
            fault = NONE;
            int many = Math.min(text.size(), PLACES);
            for (int i = 0; i < many; i++) {
                int b = text.byteAt(i);
                letters[i] = letterOf(b);
                if (letters[i] == NONE && b != '.') {
                    fault = i;
                    return;
                }
            }
            size = many;
        }

        int size() {
            return size;
        }

        int faultPlace() {
            return fault;
        }

        boolean isTrueOf(Names names, int name) {
            if (size == 0) {
                return true;
            }
            if (names.lengthOf(name) != size) {
                return false;
            }
            for (int i = 0; i < size; i++) {
                if (letters[i] != NONE && letters[i] != names.letterAt(name, i)) {
                    return false;
                }
            }
            return true;
        }
    }

    /** Which names, as bits, fit what was heard; and the row of those that fit all of it. */
    private static final class Fitting {
        private final int[] pieceFits = new int[MOST_PIECES];
        private final int[] inOrder = new int[MOST_NAMES];
        private int pieceCount;
        private int songFits;
        private int allFit;
        private int ordered;

        void update(Names names, Pieces pieces, Song song) {
            Arrays.fill(pieceFits, 0);
            pieceCount = pieces.size();
            songFits = 0;
            for (int name = 0; name < names.size(); name++) {
                if (song.isTrueOf(names, name)) {
                    songFits |= 1 << name;
                }
                for (int piece = 0; piece < pieceCount; piece++) {
                    if (pieces.isTrueOf(piece, names, name)) {
                        pieceFits[piece] |= 1 << name;
                    }
                }
            }
            allFit = by(ALL_PIECES);
            order(names);
        }

        private void order(Names names) {
            ordered = 0;
            for (int odds = 9; odds >= 1; odds--) {
                for (int name = 0; name < names.size(); name++) {
                    if ((allFit & 1 << name) != 0 && names.oddsOf(name) == odds && ordered < MOST_NAMES) {
                        inOrder[ordered] = name;
                        ordered++;
                    }
                }
            }
        }

        int byAll() {
            return allFit;
        }

        int byPiece(int piece) {
            return piece >= 0 && piece < pieceCount ? pieceFits[piece] : 0;
        }

        /** Names that the song and some pieces fit, both as bits. */
        int by(int pieceBits) {
            int fit = songFits;
            for (int piece = 0; piece < pieceCount; piece++) {
                if ((pieceBits & 1 << piece) != 0) {
                    fit &= pieceFits[piece];
                }
            }
            return fit;
        }

        int fewestPieces() {
            int all = (1 << pieceCount) - 1;
            int fewest = all;
            for (int bits = 0; bits < all; bits++) {
                if (Integer.bitCount(bits) < Integer.bitCount(fewest) && by(bits) == allFit) {
                    fewest = bits;
                }
            }
            return fewest;
        }

        int rowSize() {
            return ordered;
        }

        int inRow(int i) {
            return i >= 0 && i < ordered ? inOrder[i] : NONE;
        }
    }

    /** What is promised and paid. */
    private static final class Deal {
        private static final int GOLD = 0, COW = 1, NIGHTS = 2, RUIN = 3, PER_NIGHT = 4, TERMS = 5;
        private static final int[] LEAST = {1, 0, 1, 0, 1};
        private static final int[] MOST = {99, 99, MOST_NIGHTS, 9999, 3};
        private final int[] terms = {1, 5, 10, 100, 1};

        boolean allows(int what, int v) {
            return what >= 0 && what < TERMS && v >= LEAST[what] && v <= MOST[what];
        }

        /** What it was. */
        int exchange(int what, int v) {
            if (what < 0 || what >= TERMS) {
                return BAD;
            }
            int was = terms[what];
            terms[what] = v;
            return was;
        }

        int nights() {
            return terms[NIGHTS];
        }

        int cow() {
            return terms[COW];
        }

        int promised(int night) {
            return terms[GOLD] << night;
        }

        int paidUnnamed() {
            return promised(terms[NIGHTS]) + terms[RUIN];
        }

        /** How many guesses can be made in all nights. */
        int turns() {
            return terms[NIGHTS] * terms[PER_NIGHT];
        }

        int nightOf(int turn) {
            return terms[PER_NIGHT] < 1 ? turn : turn / terms[PER_NIGHT];
        }

        /** What is paid in all if he is named by a guess of so many; by none, if it comes too late. */
        int paidAt(int turn, int guesses) {
            if (turn >= 0 && turn < turns()) {
                return promised(nightOf(turn)) + terms[COW] * turn;
            }
            return paidUnnamed() + terms[COW] * Math.min(guesses, turns());
        }
    }

    /** The nights as they went. */
    private static final class Guesses {
        private final int[] list = new int[MOST_GUESSES];
        private int size;

        int size() {
            return size;
        }

        boolean isFull() {
            return size >= MOST_GUESSES;
        }

        void append(int name) {
            if (size >= 0 && size < MOST_GUESSES) {
                list[size] = name;
                size++;
            }
        }

        void dropLast() {
            if (size > 0) {
                size--;
            }
        }

        void empty() {
            size = 0;
        }

        int firstTurnOf(int name, int turns) {
            int made = Math.min(size, turns);
            for (int turn = 0; turn < made; turn++) {
                if (list[turn] == name) {
                    return turn;
                }
            }
            return NONE;
        }
    }

    /**
     * From the last night back, when to guess and when to listen. A mean is a sum, of all names that
     * are left, of what is paid times the ODDS, by the ODDS of all; these are the same whatever is
     * done, so the least sum, a whole number, makes the least mean.
     */
    private static final class Wise {
        private static final int UNKNOWN = -1, ACTS = MOST_NAMES + PLACES;
        private final Names names;
        private final Deal deal;
        // by far the longest row, so it is made only for an object that is asked for what is wisest
        private int[] least = new int[0];
        private boolean stale = true;

        Wise(Names names, Deal deal) {
            this.names = names;
            this.deal = deal;
        }

        void forgetAll() {
            stale = true;
        }

        /** Ahead of each asking, as the names or the deal may have become other ones. */
        void makeReady() {
            if (stale) {
                stale = false;
                if (least.length == 0) {
                    least = new int[MOST_NIGHTS << MOST_NAMES];
                }
                int used = Math.min(least.length, deal.nights() << names.size());
                for (int slot = 0; slot < used; slot++) {
                    least[slot] = UNKNOWN;
                }
            }
        }

        int firstAct(int night, int left) {
            if (left == 0 || night >= deal.nights()) {
                return NONE;
            }
            int sum = leastFrom(night, left);
            for (int act = 0; act < ACTS; act++) {
                if (sumOf(act, night, left) == sum) {
                    return act;
                }
            }
            return NONE;
        }

        /** The least sum of all that is paid from a night on; it asks itself for the nights behind, 12 at most. */
        private int leastFrom(int night, int left) {
            if (left == 0) {
                return 0;
            }
            int slot = night << names.size() | left;
            if (night < 0 || night >= deal.nights() || slot < 0 || slot >= least.length) {
                return sumUnnamed(left);
            }
            if (least[slot] == UNKNOWN) {
                int sum = MOST_INT;
                for (int act = 0; act < ACTS; act++) {
                    sum = Math.min(sum, sumOf(act, night, left));
                }
                least[slot] = sum;
            }
            return least[slot];
        }

        private int sumOf(int act, int night, int left) {
            return act < MOST_NAMES ? sumOfGuess(act, night, left) : sumOfListening(act - MOST_NAMES, night, left);
        }

        private int sumOfGuess(int name, int night, int left) {
            if ((left & 1 << name) == 0) {
                return MOST_INT;
            }
            int others = left & ~(1 << name);
            return names.oddsOf(name) * deal.promised(night)
                    + names.oddsOfAll(others) * deal.cow()
                    + leastFrom(night + 1, others);
        }

        /**
         * Where all sound alike a night is lost: whoever names him later on could have done so a
         * night ahead for half the promise. So it is among the best only if he is best never named,
         * and is taken for that.
         */
        private int sumOfListening(int place, int night, int left) {
            int sum = 0;
            for (int letter = NONE; letter < LETTERS; letter++) {
                int group = left & names.soundingAt(place, letter);
                if (group == left) {
                    return sumUnnamed(left);
                }
                sum += leastFrom(night + 1, group);
            }
            return sum;
        }

        private int sumUnnamed(int left) {
            return names.oddsOfAll(left) * deal.paidUnnamed();
        }
    }

    /** What listening settles, whatever the ODDS. */
    private static final class Spy {
        private final Names names;
        private final int[] nights = new int[ALL_NAMES + 1];
        private boolean stale = true;
        private int settled;

        Spy(Names names) {
            this.names = names;
        }

        void forgetAll() {
            stale = true;
        }

        int bestPlace(int fit) {
            int best = 0;
            for (int place = 1; place < PLACES; place++) {
                if (leftAtWorst(fit, place) < leftAtWorst(fit, best)) {
                    best = place;
                }
            }
            return best;
        }

        int leftAtWorst(int fit, int place) {
            int worst = 0;
            for (int letter = NONE; letter < LETTERS; letter++) {
                worst = Math.max(worst, Integer.bitCount(fit & names.soundingAt(place, letter)));
            }
            return worst;
        }

        int nightsAtWorst(int fit) {
            int bits = fit & ALL_NAMES;
            if (stale || settled != bits) {
                stale = false;
                settled = bits;
                settle(bits);
            }
            return nights[bits];
        }

        /** In rising order each set comes behind all that are part of it. */
        private void settle(int bits) {
            int many = 1 << Integer.bitCount(bits);
            int left = 0;
            for (int i = 1; i < many; i++) {
                left = left - bits & bits;
                nights[left] = fewestNights(left);
            }
        }

        private int fewestNights(int left) {
            int fewest = MOST_NAMES;
            for (int name = 0; name < MOST_NAMES; name++) {
                if ((left & 1 << name) != 0) {
                    fewest = Math.min(fewest, 1 + nights[left & ~(1 << name)]);
                }
            }
            for (int place = 0; place < PLACES; place++) {
                fewest = Math.min(fewest, 1 + nightsBehind(place, left));
            }
            return fewest;
        }

        private int nightsBehind(int place, int left) {
            int worst = 0;
            for (int letter = NONE; letter < LETTERS; letter++) {
                int group = left & names.soundingAt(place, letter);
                // a place where all sound alike settles nothing
                if (group == left) {
                    return MOST_NAMES;
                }
                worst = Math.max(worst, nights[group]);
            }
            return worst;
        }
    }

    /** A row of bytes, shorts or ints, or a lost one. */
    private static final class Sheet {
        private final int[] items = new int[MOST_ITEMS];
        private int form;
        private int size = NONE;

        boolean isLost() {
            return size == NONE;
        }

        int form() {
            return form;
        }

        int size() {
            return size;
        }

        void begin(int newForm, int many) {
            form = newForm;
            become(Math.min(many, MOST_ITEMS));
            Arrays.fill(items, 0);
        }

        /** NONE: lost. */
        void become(int many) {
            size = many;
        }

        boolean holds(int from, int many) {
            return from >= 0 && many >= 0 && (long) from + many <= size;
        }

        int item(int i) {
            return i >= 0 && i < size && i < items.length ? items[i] : 0;
        }

        void put(int i, int v) {
            if (i >= 0 && i < size && i < items.length) {
                items[i] = asOfForm(v);
            }
        }

        private int asOfForm(int v) {
            if (form == 0) {
                return (byte) v;
            }
            return form == 1 ? (short) v : v;
        }

        void take(Sheet from, int i, int j, int many) {
            if (from.holds(i, many) && holds(j, many)) {
                System.arraycopy(from.items, i, items, j, many);
            }
        }
    }
}
