/**
 * Whether a call changes anything: told by two objects with the same calls behind them, one of which had that
 * call more. All that can be asked or brought to light is asked of both, and must be the same.
 */
final class Twins {
    interface Calls {
        void make(NoThrees x);
    }

    interface Asked {
        long get(NoThrees x);
    }

    private Twins() {
    }

    /** Behind these calls there is something of each kind that a call could change. */
    static void busy(NoThrees x) {
        busyWithoutTape(x);
        // The latest text has a fault, and a good one stands on the tape.
        Check.world(x, "points 7;line 0 7;");
        Check.feed(x, "grid 2 3;line 0 5;");
    }

    static void busyWithoutTape(NoThrees x) {
        Check.world(x, "points 7;line 0 1 2;line 2 3;line 4 5 6;");
        x.image(0);
        x.add(Check.set(0, 6));
        x.image(2);
        x.drop(1);
        x.add(Check.set(1, 3, 5));
        x.left(2);
        x.dual();
        x.undo();
        x.undo();
        x.tray(0, 0, 6);
        Check.write(x, 0, -1, 3, 4, -2, 0, -3);
        x.tray(1, 1, 3);
        Check.write(x, 1, -4, 0, -5);
        x.tray(3, 3, 40);
        Check.write(x, 3, -3, -5, -6, -1, 0, 1, -7);
    }

    /** The call must throw just this, and change nothing. */
    static void refused(String what, Class<? extends RuntimeException> want, Calls before, Calls call) {
        NoThrees x = after(before);
        Check.thrown(what, want, () -> call.make(x));
        same(what, x, after(before));
    }

    static void refused(String what, Class<? extends RuntimeException> want, Calls call) {
        refused(what, want, Twins::busy, call);
    }

    /** The call must answer so, and change nothing. */
    static void idle(String what, long want, Calls before, Asked call) {
        NoThrees x = after(before);
        Check.due(what, want, call.get(x));
        same(what, x, after(before));
    }

    static void same(String what, NoThrees x, NoThrees twin) {
        String want = all(twin);
        String got = all(x);
        if (!want.equals(got)) {
            System.out.println(what + ": shows " + got + "\n due is " + want);
        }
        Check.due(what + ": all else is as it was", true, want.equals(got));
    }

    private static NoThrees after(Calls before) {
        NoThrees x = new NoThrees();
        before.make(x);
        return x;
    }

    /** All that can be brought to light, the tape and the fault, too; the object is of no use then. */
    static String all(NoThrees x) {
        String faults = "fault " + x.fault(0) + " at " + x.fault(1) + " tape " + x.count(2);
        StringBuilder told = new StringBuilder(faults + "\n");
        tellWorlds(x, told);
        told.append(" text ").append(x.world(x.count(2))).append(' ').append(x.fault(0)).append(' ').append(x.fault(1));
        look(x, told);
        return told.toString();
    }

    /** What can be brought to light but for the tape and the fault. */
    static String worlds(NoThrees x) {
        StringBuilder told = new StringBuilder();
        tellWorlds(x, told);
        return told.toString();
    }

    private static void tellWorlds(NoThrees x, StringBuilder told) {
        look(x, told);
        walkHistory(x, told);
        for (int tray = 0; tray < 4; tray++) {
            int row = tray;
            told.append("\ntray ").append(tray).append(" used ").append(answer(() -> x.perform(row)));
            look(x, told);
            for (int place : new int[] {0, 2, 3, 5, 6, 39, 40}) {
                told.append(" place ").append(place).append(' ').append(answer(() -> x.write(row, place, 0x1234567890L)));
            }
        }
        for (int i = 0; i < 3; i++) {
            int image = i;
            told.append("\nimage ").append(answer(() -> {
                x.restore(image);
                return 1;
            }));
            look(x, told);
        }
    }

    /** On to the end of what can be done again, back to the first that can be undone, and to where it was. */
    private static void walkHistory(NoThrees x, StringBuilder told) {
        int ahead = x.count(4);
        for (int i = 0; i < ahead; i++) {
            told.append("\nagain ").append(x.again());
            look(x, told);
        }
        int behind = x.count(3);
        for (int i = 0; i < behind; i++) {
            told.append("\nundo ").append(x.undo());
            look(x, told);
        }
        for (int i = ahead; i < behind; i++) {
            told.append(x.again());
        }
    }

    private static void look(NoThrees x, StringBuilder told) {
        told.append(" points ").append(x.count(0)).append(" acts ").append(x.count(3)).append(' ').append(x.count(4));
        int lines = x.count(1);
        told.append(" lines ").append(lines).append(':');
        for (int i = 0; i < lines; i++) {
            // An object has 512 calls.
            i = i == 8 ? Math.max(8, lines - 2) : i;
            told.append(' ').append(x.line(i));
        }
    }

    private interface Answer {
        long get();
    }

    private static String answer(Answer call) {
        try {
            return Long.toString(call.get());
        } catch (RuntimeException e) {
            return e.getClass().getName();
        }
    }
}
