/**
 * What is asked of a WORLD follows from that WORLD alone: an object that was asked all of another one before, and
 * was brought to this one by a text, by acts or by an image, answers as a new object does.
 */
public final class AfterOthersTest {
    private static final String[] TEXTS = {
        "",
        "points 1;",
        "points 2;line 0 1;",
        "points 3;line 0 1;line 0 1;",
        "points 5;line 0 1;line 1 2;line 2 3;",
        "points 7;line 0 1 3;line 1 2 4;line 2 3 5;line 3 4 6;line 4 5 0;line 5 6 1;line 6 0 2;",
        "points 8;line 0 1 2 3;line 4 5 6 7;line 0 4;line 1 5;",
        "points 16;line 15 14 13;line 0 1;line 0 15;line 7 8;",
        "points 17;line 16 0;line 1 2 3;",
        "points 28;line 26 27;line 0 27;",
        // More than 100,000 tries for all, and for none.
        "points 51;line 0 1 2 3 4 5 6 7 8 9;line 10 11 12 13 14 15 16 17 18 19;line 20 21 22 23 24 25 26 27 28 29;"
            + "line 30 31 32 33 34 35 36 37 38 39;line 40 41 42 43 44 45 46 47 48 49;",
        "points 53;line 0 1 2 3 4 5 6 7 8 9;line 10 11 12 13 14 15 16 17 18 19;line 20 21 22 23 24 25 26 27 28 29;"
            + "line 30 31 32 33 34 35 36 37 38 39;line 40 41 42 43 44 45 46 47 48 49;line 50 51;line 51 52;line 50 52;",
        "points 64;line 0 1 2 3 4 5 6 7 8 9 10 11 12 13 14 15 16 17 18 19 20 21 22 23 24 25 26 27 28 29 30 31 32 33 34 35;"
            + "line 63 62;line 36 37 63;",
        "grid 8 8;",
        "grid 4 4;",
        "grid 3 2;",
        "duads;",
        "sixes;",
        "threes;",
    };

    public static void main(String[] args) {
        String[] fresh = new String[TEXTS.length];
        for (int i = 0; i < TEXTS.length; i++) {
            fresh[i] = asked(Check.told(TEXTS[i]), false);
            due("by itself in another order", fresh[i], asked(Check.told(TEXTS[i]), true));
        }
        for (int before = 0; before < TEXTS.length; before++) {
            for (int i = 0; i < TEXTS.length; i++) {
                NoThrees x = Check.told(TEXTS[before]);
                asked(x, (before + i) % 2 == 0);
                Check.world(x, TEXTS[i]);
                due("Promise 3: behind " + TEXTS[before], fresh[i], asked(x, i % 2 == 0));
                byActs(TEXTS[before], TEXTS[i], fresh[i]);
            }
        }
        for (int before : new int[] {7, 10, 13, 17}) {
            for (int i : new int[] {2, 3, 6, 15}) {
                oneBehindOne(TEXTS[before], TEXTS[i]);
            }
        }
        Check.end("AfterOthersTest");
    }

    /** Each question behind each other one, with nothing between but another world. */
    private static void oneBehindOne(String before, String text) {
        for (int first = 0; first < QUESTIONS.length; first++) {
            for (int next = 0; next < QUESTIONS.length; next++) {
                NoThrees x = Check.told(before);
                QUESTIONS[first].of(x, x.count(0), x.count(1));
                Check.world(x, text);
                NoThrees fresh = Check.told(text);
                int points = fresh.count(0);
                int lines = fresh.count(1);
                long want = QUESTIONS[next].of(fresh, points, lines);
                Check.due("question " + next + " of " + text + " behind " + first + " of " + before, want, QUESTIONS[next].of(x, points, lines));
            }
        }
    }

    private static void byActs(String before, String text, String want) {
        NoThrees x = Check.told(text);
        x.image(0);
        x.dual();
        x.dual();
        if (x.count(1) > 0) {
            x.drop(0);
        }
        asked(x, true);
        while (x.undo()) {
            x.count(0);
        }
        due("Promise 40: undone", want, asked(x, false));
        Check.world(x, before);
        asked(x, false);
        x.restore(0);
        due("Promise 47: as in the image", want, asked(x, true));
    }

    private static void due(String what, String want, String got) {
        if (!want.equals(got)) {
            System.out.println(what + " answers\n" + got + "due is\n" + want);
        }
        Check.due(what, true, want.equals(got));
    }

    private interface Question {
        long of(NoThrees x, int points, int lines);
    }

    private static final Question[] QUESTIONS = {
        (x, n, b) -> x.law(),
        (x, n, b) -> x.order(false),
        (x, n, b) -> x.order(true),
        (x, n, b) -> x.own(1, true),
        (x, n, b) -> b == 0 ? 0 : x.line(b - 1),
        (x, n, b) -> n == 0 ? 0 : x.through(n - 1),
        (x, n, b) -> n == 0 ? 0 : x.near(n - 1),
        (x, n, b) -> n == 0 ? 0 : x.joined(n - 1, n / 2),
        (x, n, b) -> n == 0 ? 0 : x.across(1L << n - 1),
        (x, n, b) -> n < 3 ? 0 : x.spanned(5),
        (x, n, b) -> n == 0 ? 0 : x.hyper(0, n - 1),
        (x, n, b) -> n == 0 || !x.regular(0, n - 1) ? 0 : 1,
        (x, n, b) -> n == 0 ? 0 : x.even(1L << n - 1),
        (x, n, b) -> x.evens(1),
        (x, n, b) -> x.tight(0),
        (x, n, b) -> x.ovoid(),
        (x, n, b) -> x.spread(),
        (x, n, b) -> x.ovoids(),
        (x, n, b) -> x.spreads(),
        (x, n, b) -> x.cap(),
        (x, n, b) -> x.triads(-1),
        (x, n, b) -> x.triads(1),
        (x, n, b) -> x.walks(3),
        (x, n, b) -> x.walks(8),
        (x, n, b) -> n == 0 ? 0 : x.far(0, n - 1),
        (x, n, b) -> x.widest(),
        (x, n, b) -> x.ring(),
        (x, n, b) -> x.parts(),
        (x, n, b) -> x.rank(2),
        (x, n, b) -> x.rank(3),
        (x, n, b) -> x.rank(7),
        (x, n, b) -> x.code(0),
        (x, n, b) -> x.code(1),
        (x, n, b) -> x.turnings(),
        (x, n, b) -> n == 0 ? 0 : x.orbit(0),
        (x, n, b) -> n == 0 ? 0 : x.orbit(n - 1),
        (x, n, b) -> like(x),
    };

    /** Like itself, as it is now. */
    private static long like(NoThrees x) {
        x.image(2);
        return x.like(2);
    }

    private static String asked(NoThrees x, boolean lastFirst) {
        int many = QUESTIONS.length;
        long[] answers = new long[many];
        int points = x.count(0);
        int lines = x.count(1);
        for (int i = 0; i < many; i++) {
            int question = lastFirst ? many - 1 - i : i;
            answers[question] = QUESTIONS[question].of(x, points, lines);
        }
        StringBuilder told = new StringBuilder();
        for (int i = 0; i < many; i++) {
            told.append(i).append(": ").append(answers[i]).append('\n');
        }
        return told.toString();
    }
}
