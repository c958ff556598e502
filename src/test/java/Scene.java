/** Objects made ready for the tests, and all that can be seen of one. */
final class Scene {
    static final int NONE = NamedDwarf.NONE, BAD = NamedDwarf.BAD, NOT = NamedDwarf.NOT, FULL = NamedDwarf.FULL;
    static final int NULL = -11, INDEX = -12, CAST = -13, STORE = -14, SIZE = -15;
    static final int LEAST_INT = Integer.MIN_VALUE, MOST_INT = Integer.MAX_VALUE;
    static final long LONG_BAD = Long.MIN_VALUE + 2, LONG_NOT = Long.MIN_VALUE + 3;
    static final String TEN = "1a;1b;1c;1d;1e;1f;1aa;1bb;1cc;1dd";
    static final String TEN_ALIKE = "9a;9a;9a;9a;9a;9a;9a;9a;9a;9a";
    /** 79 bytes: no text of NAMES that is well can be longer. */
    static final String LONGEST_TEN = "1aaaaaa;2aaaaab;3aaaaac;4aaaaad;5aaaaae;6aaaaaf;7aaaaba;8aaaabb;9aaaabc;1aaaabd";
    static final String SIX_PIECES = "+a;+a;+a;+a;+a;-b";
    /** 29 bytes: no text of PIECES that is well can be longer. */
    static final String LONGEST_SIX = "+aaa;+aab;+aac;-aad;-aae;-aaf";

    private Scene() {
    }

    static void put(NamedDwarf x, int text, String bytes) {
        x.wipe(text);
        more(x, text, bytes);
    }

    static void more(NamedDwarf x, int text, String bytes) {
        for (int i = 0; i < bytes.length(); i++) {
            x.type(text, bytes.charAt(i));
        }
    }

    static NamedDwarf dwarf(String names, String pieces, String song) {
        NamedDwarf x = new NamedDwarf();
        more(x, 0, names);
        more(x, 1, pieces);
        more(x, 2, song);
        return x;
    }

    static NamedDwarf named(String names) {
        return dwarf(names, "", "");
    }

    static void deal(NamedDwarf x, int gold, int cow, int nights, int ruin, int perNight) {
        int[] terms = {gold, cow, nights, ruin, perNight};
        for (int what = 0; what < terms.length; what++) {
            x.set(what, terms[what]);
        }
    }

    static void guess(NamedDwarf x, int... names) {
        for (int name : names) {
            x.guess(name);
        }
    }

    /** A row of a form with these items. */
    static void lay(NamedDwarf x, int s, int form, int... items) {
        x.sheet(s, form, items.length);
        for (int i = 0; i < items.length; i++) {
            x.lay(s, form, i, items[i]);
        }
    }

    /** Something of everything; SHEET 3 is LOST. Of its five NAMES 2, 3, 4 fit. */
    static NamedDwarf busy() {
        NamedDwarf x = dwarf("3abca;1abda;2fab;1abc;3cab", "+ab;-da", "...");
        deal(x, 2, 3, 4, 7, 2);
        guess(x, 3, 9, 0);
        lay(x, 0, 0, 5, 6, 7);
        lay(x, 1, 1, 1, -2, 300, 9);
        lay(x, 2, 2, 70000, 8, 7, 6, -5);
        return x;
    }

    /** All that can be told of it, but for the latest FINDING. Nothing is left of it behind this. */
    static String seen(NamedDwarf x) {
        StringBuilder told = new StringBuilder();
        for (int what = 0; what <= 7; what++) {
            told.append(x.count(what)).append(' ');
        }
        letters(x, told);
        sheets(x, told);
        guesses(x, told);
        texts(x, told);
        for (int what = 0; what < 5; what++) {
            told.append(x.set(what, 1)).append(' ');
        }
        return told.toString();
    }

    private static void letters(NamedDwarf x, StringBuilder told) {
        int many = x.count(0);
        for (int name = 0; name < many; name++) {
            for (int i = 0; i < 6; i++) {
                told.append(x.name(name, i)).append(' ');
            }
        }
    }

    private static void sheets(NamedDwarf x, StringBuilder told) {
        for (int s = 0; s < 4; s++) {
            for (int form = 0; form < 3; form++) {
                told.append("; sheet ").append(s).append(' ').append(form).append(": ");
                int item = x.get(s, form, 0);
                for (int i = 1; i <= 60 && item != LEAST_INT; i++) {
                    told.append(item).append(' ');
                    item = x.get(s, form, i);
                }
            }
            told.append(x.lose(s));
        }
    }

    private static void guesses(NamedDwarf x, StringBuilder told) {
        int many = x.count(6);
        for (int i = 0; i < many; i++) {
            told.append("; guessed ").append(x.digest()).append(' ').append(x.unguess());
        }
    }

    private static void texts(NamedDwarf x, StringBuilder told) {
        for (int text = 0; text < 3; text++) {
            int many = x.count(3 + text);
            for (int i = 0; i < many; i++) {
                told.append("; typed ").append(x.digest()).append(' ').append(x.undo(text));
            }
        }
    }
}
