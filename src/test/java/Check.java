/** Compares answers with those that are due, and counts the wrong ones. */
final class Check {
    private int wrong;
    private int calls;
    private String part = "";

    void part(String name) {
        part = name;
    }

    void due(String call, long got, long want) {
        calls++;
        if (got != want) {
            wrong++;
            if (wrong <= 50) {
                System.out.println(part + ": " + call + " answered " + got + ", due is " + want);
            }
        }
    }

    void due(String call, String got, String want) {
        if (got.equals(want)) {
            calls++;
        } else {
            fail(call + " answered\n" + got + "due is\n" + want);
        }
    }

    void fail(String why) {
        calls++;
        wrong++;
        System.out.println(part + ": " + why);
    }

    boolean isClean() {
        return wrong == 0;
    }

    void end() {
        System.out.println(wrong == 0 ? calls + " answers are as due" : wrong + " answers are not as due");
        if (wrong != 0) {
            System.exit(1);
        }
    }

    /** A text fed to a new object: what net() answers, where its fault is and why. */
    void reads(String text, int answer, int at, int why) {
        EightWays x = new EightWays();
        feed(x, text);
        due("net() of '" + text + "'", x.net(), answer);
        due("fault(0) of '" + text + "'", x.fault(0), at);
        due("fault(1) of '" + text + "'", x.fault(1), why);
        due("told(0) of '" + text + "'", x.told(0), Math.max(answer, 0));
        due("told(3) of '" + text + "'", x.told(3), 0);
    }

    static void feed(EightWays x, String text) {
        for (int i = 0; i < text.length(); i++) {
            x.feed(text.charAt(i));
        }
    }

    static EightWays netOf(String text) {
        EightWays x = new EightWays();
        feed(x, text);
        x.net();
        return x;
    }
}
