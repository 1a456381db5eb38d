import java.util.List;

/** All that an object answers, as one text: to see that two objects are in one state. */
final class Snapshot {
    /** What may be done to an object to bring out what lies hidden in it, and all that it answers then. */
    interface After {
        String of(EightWays x);
    }

    /** The images, what can be undone and the text are seen only by going on: each way by itself. */
    static final List<After> AFTER = List.of(
        Snapshot::of,
        Snapshot::undone,
        x -> "back " + x.goBack(0) + "\n" + of(x),
        x -> "back " + x.goBack(1) + "\n" + of(x),
        x -> "net " + x.net() + "\n" + of(x),
        x -> "fed " + x.feed(';') + " net " + x.net() + "\n" + of(x));

    private Snapshot() {
    }

    /** Less than 200 calls, so that an object stays within its 512. */
    static String of(EightWays x) {
        StringBuilder all = new StringBuilder();
        all.append("fault ").append(x.fault(0)).append(' ').append(x.fault(1)).append("\ntold");
        for (int what = 0; what <= 12; what++) {
            all.append(' ').append(x.told(what));
        }
        all.append("\nplans ").append(x.plans());
        int stations = x.told(0);
        int stretches = x.told(1);
        int lines = x.told(2);
        for (int s = 0; s < stations; s++) {
            all.append("\nstation");
            for (int what = 0; what <= 6; what++) {
                all.append(' ').append(x.station(s, what));
            }
            all.append(' ').append(x.crossings(s));
        }
        for (int e = 0; e < stretches; e++) {
            all.append("\nstretch");
            for (int what = 0; what <= 7; what++) {
                all.append(' ').append(x.stretch(e, what));
            }
            for (int i = 0; i < lines; i++) {
                all.append(' ').append(x.order(e, i));
            }
        }
        for (int l = 0; l < lines; l++) {
            all.append("\nline");
            for (int what = 0; what <= 3; what++) {
                all.append(' ').append(x.line(l, what));
            }
            for (int k = 0; k < stretches; k++) {
                all.append(' ').append(x.along(l, k));
            }
            for (int other = 0; other < l; other++) {
                all.append(' ').append(x.cross(l, other));
            }
        }
        return all.append('\n').toString();
    }

    private static String undone(EightWays x) {
        StringBuilder all = new StringBuilder();
        int stations = x.told(0);
        int stretches = x.told(1);
        int left = 0;
        for (int n = 0; n < 17 && left >= 0; n++) {
            left = x.undo();
            all.append("undo ").append(left);
            for (int s = 0; s < stations; s++) {
                all.append(' ').append(x.station(s, 0)).append(' ').append(x.station(s, 1));
            }
            for (int e = 0; e < stretches; e++) {
                all.append(' ').append(x.stretch(e, 6));
            }
            all.append(' ').append(x.told(4)).append(' ').append(x.told(5)).append('\n');
        }
        return all.toString();
    }
}
