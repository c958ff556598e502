/** Runs of calls by a fixed row of numbers, each answer held against the Oracle's. */
public final class RandomRunsTest {
    private static final int RUNS = 1200, CALLS = 512;
    private static final int KINDS = 33;
    private static final Due due = new Due("RandomRunsTest");
    private static long seed;
    private static NamedDwarf x;
    private static Oracle o;
    private static int calls;
    private static final int[] asked = new int[KINDS];

    /** 0 to less than bound. */
    private static int draw(int bound) {
        seed = seed * 6364136223846793005L + 1442695040888963407L;
        return (int) ((seed >>> 33) % bound);
    }

    private static int within(int from, int to) {
        return from + draw(to - from + 1);
    }

    /** Mostly within, now and then just or far outside. */
    private static int nearly(int from, int to) {
        switch (draw(24)) {
            case 0:
                return from - 1;
            case 1:
                return to + 1;
            case 2:
                return draw(2) == 0 ? Integer.MIN_VALUE : Integer.MAX_VALUE;
            default:
                return within(from, to);
        }
    }

    public static void main(String[] args) {
        for (int run = 1; run <= RUNS && due.allWell(); run++) {
            seed = run * 7919L;
            x = new NamedDwarf();
            o = new Oracle();
            calls = 0;
            start(run);
            int heavy = run % 40 == 0 ? 12 : 4;
            while (calls < CALLS && due.allWell()) {
                one(run, heavy);
            }
        }
        for (int kind = 0; kind < KINDS; kind++) {
            due.holds("kind " + kind + " of calls was asked", asked[kind] > 0 || kind == 0);
        }
        due.end();
    }

    private static String word(int letters, int most) {
        StringBuilder word = new StringBuilder();
        int length = within(1, most);
        for (int i = 0; i < length; i++) {
            word.append((char) ('a' + draw(letters)));
        }
        return word.toString();
    }

    private static String namesText(int many, int letters) {
        StringBuilder text = new StringBuilder();
        String last = word(letters, 6);
        for (int i = 0; i < many; i++) {
            int way = draw(4);
            if (way == 0) {
                last = word(letters, 6);
            } else if (way < 3) {
                int at = draw(last.length());
                last = last.substring(0, at) + (char) ('a' + draw(letters)) + last.substring(at + 1);
            }
            text.append(i == 0 ? "" : ";").append(within(1, 9)).append(last);
        }
        return text.toString();
    }

    private static String piecesText(int many, int letters) {
        StringBuilder text = new StringBuilder();
        for (int i = 0; i < many; i++) {
            text.append(i == 0 ? "" : ";").append(draw(3) > 0 ? '+' : '-').append(word(letters, 3));
        }
        return text.toString();
    }

    private static void typeAll(int run, int t, String text) {
        for (int i = 0; i < text.length(); i++) {
            int b = text.charAt(i);
            tell(run, "type", 2, x.type(t, b), o.type(t, b), t, b);
        }
    }

    private static void start(int run) {
        int letters = within(1, 6);
        typeAll(run, 0, run % 40 == 0 ? namesText(within(8, 10), letters) : namesText(within(0, 7), letters));
        typeAll(run, 1, piecesText(draw(3) == 0 ? 0 : within(0, 6), letters));
        if (draw(4) == 0) {
            int many = within(1, 6);
            for (int i = 0; i < many; i++) {
                int b = draw(3) > 0 ? '.' : 'a' + draw(letters);
                tell(run, "type", 2, x.type(2, b), o.type(2, b), 2, b);
            }
        }
        if (draw(2) == 0) {
            setSome(run);
        }
    }

    private static void setSome(int run) {
        int[] to = {99, 99, 12, 9999, 3};
        boolean cheapToWait = draw(4) == 0;
        for (int what = 0; what < 5; what++) {
            if (cheapToWait || draw(2) == 0) {
                int v = draw(3) == 0 ? draw(4) : within(0, to[what]);
                v = cheapToWait ? what == 1 ? v : draw(4) : v;
                tell(run, "set", 7, x.set(what, v), o.set(what, v), what, v);
            }
        }
    }

    private static int randomByte() {
        String likely = ";;;123456789aabbccdef+-..g0";
        return draw(12) == 0 ? nearly(0, 255) : likely.charAt(draw(likely.length()));
    }

    private static void tell(int run, String call, int promise, long got, long want, int... args) {
        calls++;
        if (promise >= 2 && promise - 1 < KINDS) {
            asked[promise - 1]++;
        }
        StringBuilder told = new StringBuilder("run " + run + ", call " + calls + ": " + call + "(");
        if (got != want) {
            for (int a : args) {
                told.append(a).append(' ');
            }
        }
        due.answer(told + ")", got, want);
    }

    private static void one(int run, int heavy) {
        int group = draw(20);
        if (group < 3) {
            texts(run);
        } else if (group < 5) {
            nights(run);
        } else if (group < 9) {
            which(run);
        } else if (group < 12) {
            if (draw(heavy) == 0) {
                wise(run);
            } else {
                rows(run);
            }
        } else if (group < 15) {
            worth(run);
        } else if (group < 19) {
            sheets(run);
        } else if (draw(4) == 0) {
            tell(run, "digest", 33, x.digest(), o.digest());
        }
    }

    private static void texts(int run) {
        int t = draw(20) == 0 ? nearly(0, 2) : draw(3);
        int b = randomByte();
        switch (draw(30)) {
            case 0:
                tell(run, "wipe", 3, x.wipe(t), o.wipe(t), t);
                break;
            case 1, 2, 3, 4, 5, 6:
                tell(run, "undo", 4, x.undo(t), o.undo(t), t);
                break;
            case 7, 8:
                tell(run, "fault", 5, x.fault(t), o.fault(t), t);
                break;
            case 9, 10, 11:
                tell(run, "wipe", 3, x.wipe(0), o.wipe(0), 0);
                typeAll(run, 0, namesText(within(1, 6), within(1, 6)));
                break;
            case 12, 13:
                tell(run, "wipe", 3, x.wipe(1), o.wipe(1), 1);
                typeAll(run, 1, piecesText(within(0, 4), within(1, 6)));
                break;
            case 14, 15, 16:
                tell(run, "wipe", 3, x.wipe(2), o.wipe(2), 2);
                break;
            default:
                tell(run, "type", 2, x.type(t, b), o.type(t, b), t, b);
                // most are undone at once, or the text would stay at fault
                if (draw(6) > 0) {
                    tell(run, "fault", 5, x.fault(t), o.fault(t), t);
                    tell(run, "undo", 4, x.undo(t), o.undo(t), t);
                }
        }
    }

    private static void nights(int run) {
        int name = nearly(0, 9);
        int s = nearly(0, 3);
        int what = nearly(0, 4);
        int v = draw(3) == 0 ? nearly(0, 100) : nearly(0, 12);
        switch (draw(6)) {
            case 0:
                tell(run, "set", 7, x.set(what, v), o.set(what, v), what, v);
                break;
            case 1:
                tell(run, "unguess", 9, x.unguess(), o.unguess());
                break;
            case 2:
                tell(run, "read", 10, x.read(s), o.read(s), s);
                break;
            default:
                tell(run, "guess", 8, x.guess(name), o.guess(name), name);
        }
    }

    private static void which(int run) {
        int name = nearly(0, 6);
        int i = nearly(-2, 5);
        int what = nearly(0, 1);
        switch (draw(6)) {
            case 0:
                tell(run, "name", 6, x.name(name, i), o.name(name, i), name, i);
                break;
            case 1:
                tell(run, "fits", 11, x.fits(), o.fits());
                break;
            case 2:
                tell(run, "chance", 12, x.chance(name, what), o.chance(name, what), name, what);
                break;
            case 3:
                tell(run, "heard", 13, x.heard(name), o.heard(name), name);
                break;
            case 4:
                tell(run, "off", 14, x.off(name), o.off(name), name);
                break;
            default:
                tell(run, "named", 15, x.named(name, what), o.named(name, what), name, what);
        }
    }

    private static void rows(int run) {
        int what = nearly(0, 1);
        int i = nearly(0, 9);
        switch (draw(3)) {
            case 0:
                tell(run, "row", 16, x.row(i), o.row(i), i);
                break;
            case 1:
                tell(run, "mean", 17, x.mean(what), o.mean(what), what);
                break;
            default:
                tell(run, "listen", 19, x.listen(what), o.listen(what), what);
        }
    }

    private static void wise(int run) {
        int night = draw(3) > 0 ? draw(3) : nearly(0, 12);
        int bits = draw(3) == 0 ? 1023 : nearly(0, 1023);
        int what = nearly(0, 2);
        int v = draw(2) == 0 ? nearly(0, 40) : nearly(0, 99999);
        switch (draw(4)) {
            case 0:
                tell(run, "sure", 20, x.sure(), o.sure());
                break;
            case 1:
                tell(run, "spun", 21, x.spun(v), o.spun(v), v);
                break;
            default:
                tell(run, "wisest", 18, x.wisest(night, bits, what), o.wisest(night, bits, what), night, bits, what);
        }
    }

    private static void worth(int run) {
        int a = nearly(0, 63);
        int b = nearly(0, 63);
        int what = nearly(0, 2);
        int names = draw(2) == 0 ? nearly(0, 1023) : 1 << draw(6) | 1 << draw(6);
        int i = nearly(0, 5);
        int from = nearly(0, 6);
        int to = nearly(0, 6);
        switch (draw(4)) {
            case 0:
                tell(run, "pool", 22, x.pool(a, b, what), o.pool(a, b, what), a, b, what);
                break;
            case 1:
                tell(run, "shortest", 23, x.shortest(what), o.shortest(what), what);
                break;
            case 2:
                tell(run, "sung", 24, x.sung(names, i), o.sung(names, i), names, i);
                break;
            default:
                tell(run, "changes", 25, x.changes(from, to), o.changes(from, to), from, to);
        }
    }

    private static void sheets(int run) {
        int s = nearly(0, 3);
        int t = draw(3) == 0 ? s : nearly(0, 3);
        int form = draw(4) == 0 ? nearly(0, 2) : 1;
        int i = draw(3) == 0 ? nearly(0, 60) : draw(6);
        int j = draw(3) == 0 ? nearly(0, 60) : draw(6);
        int n = draw(3) == 0 ? nearly(0, 60) : draw(8);
        int v = draw(3) == 0 ? (int) (seed >>> 20) : draw(11);
        switch (draw(12)) {
            case 0, 1:
                tell(run, "sheet", 26, x.sheet(s, form, n), o.sheet(s, form, n), s, form, n);
                break;
            case 2:
                if (draw(3) == 0) {
                    tell(run, "lose", 27, x.lose(s), o.lose(s), s);
                }
                break;
            case 3, 4, 5:
                tell(run, "lay", 28, x.lay(s, form, i, v), o.lay(s, form, i, v), s, form, i, v);
                break;
            case 6, 7:
                tell(run, "get", 29, x.get(s, form, i), o.get(s, form, i), s, form, i);
                break;
            case 8, 9:
                tell(run, "copy", 30, x.copy(s, i, t, j, n), o.copy(s, i, t, j, n), s, i, t, j, n);
                break;
            case 10:
                tell(run, "write", 31, x.write(s), o.write(s), s);
                break;
            default:
                int what = nearly(0, 8);
                tell(run, "count", 32, x.count(what), o.count(what), what);
        }
    }
}
