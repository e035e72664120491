/** What the tests share: answers that are due, throws that are due, texts that are fed. */
final class Check {
    private static int wrong = 0;
    private static int asked = 0;

    private Check() {
    }

    interface Call {
        void make();
    }

    static void due(String what, long want, long got) {
        asked++;
        if (got != want) {
            wrong++;
            System.out.println(what + " answered " + got + ", due is " + want);
        }
    }

    static void due(String what, boolean want, boolean got) {
        due(what, want ? 1 : 0, got ? 1 : 0);
    }

    /** The very class that is thrown must be the one that is due. */
    static void thrown(String what, Class<? extends RuntimeException> want, Call call) {
        asked++;
        try {
            call.make();
        } catch (RuntimeException e) {
            if (e.getClass() == want) {
                return;
            }
            wrong++;
            System.out.println(what + " threw " + e + ", due is " + want.getName());
            return;
        }
        wrong++;
        System.out.println(what + " threw nothing, due is " + want.getName());
    }

    /** Feeds a text, its last twenty bytes filled with blanks. */
    static void feed(NoThrees x, String text) {
        for (int at = 0; at < text.length(); at += 20) {
            int[] words = new int[5];
            for (int i = 0; i < 20; i++) {
                int sign = at + i < text.length() ? text.charAt(at + i) : ' ';
                words[i / 4] = words[i / 4] << 8 | sign & 255;
            }
            x.feed(words[0], words[1], words[2], words[3], words[4]);
        }
    }

    static int world(NoThrees x, String text) {
        feed(x, text);
        return x.world(text.length());
    }

    static NoThrees told(String text) {
        NoThrees x = new NoThrees();
        int lines = world(x, text);
        if (lines < 0) {
            wrong++;
            System.out.println(text + " was refused: " + lines + " at " + x.fault(1));
        }
        return x;
    }

    static long set(int... points) {
        long set = 0;
        for (int p : points) {
            set |= 1L << p;
        }
        return set;
    }

    static void write(NoThrees x, int tray, long... numbers) {
        for (int i = 0; i < numbers.length; i++) {
            x.write(tray, i, numbers[i]);
        }
    }

    static void end(String name) {
        System.out.println(name + ": " + asked + " asked, " + wrong + " wrong");
        if (wrong != 0) {
            System.exit(1);
        }
    }
}
