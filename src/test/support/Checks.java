/** What the tests share: telling a sheet, and keeping the score of answers. */
final class Checks {
    private static int wrong = 0;
    private static int asked = 0;
    /** The words of the document that answers are held to now; none where a test quotes none. */
    private static String sentence = "";

    private Checks() {
    }

    static void about(String words) {
        sentence = words;
    }

    static void due(String call, long got, long want) {
        asked++;
        if (got != want) {
            wrong++;
            if (wrong <= 100) {
                System.out.println(call + " answered " + got + ", due is " + want
                    + (sentence.isEmpty() ? "" : " by \"" + sentence + "\""));
            }
        }
    }

    static void dueTrue(String what, boolean holds) {
        due(what, holds ? 1 : 0, 1);
    }

    /** Ends the test: with 1 if an answer was wrong, or if nothing was asked. */
    static void finish() {
        if (wrong != 0 || asked == 0) {
            System.out.println(wrong + " of " + asked + " answers are not as due");
            System.exit(1);
        }
        System.out.println("all " + asked + " answers are as due");
    }

    /** Puts a text on the tape, filled up by blanks: how many bytes of it are the text. */
    static int tape(LastMark x, String text) {
        for (int at = 0; at < text.length(); at += 20) {
            int[] five = new int[5];
            for (int i = 0; i < 20; i++) {
                int sign = at + i < text.length() ? text.charAt(at + i) : 32;
                five[i / 4] = five[i / 4] << 8 | sign & 255;
            }
            x.feed(five[0], five[1], five[2], five[3], five[4]);
        }
        return text.length();
    }

    static int tell(LastMark x, String text) {
        return x.sheet(tape(x, text));
    }

    /** A new object with a sheet that must be told without a fault. */
    static LastMark told(String text) {
        LastMark x = new LastMark();
        int lines = tell(x, text);
        dueTrue("a sheet without a fault: " + text + " (" + lines + ", " + x.fault(1) + ")", lines > 0);
        return x;
    }

    /** A text that is read without a fault: the object that has it. */
    static LastMark reads(String text, int lines) {
        LastMark x = new LastMark();
        due("sheet of \"" + text + "\"", tell(x, text), lines);
        due("fault(0) of \"" + text + "\"", x.fault(0), 0);
        due("fault(1) of \"" + text + "\"", x.fault(1), -1);
        return x;
    }

    /** A text that has a fault, so that the sheet stays the one of a new object. */
    static void faulty(String text, int kind, int place) {
        LastMark x = new LastMark();
        due("sheet of \"" + text + "\"", tell(x, text), -30 - kind);
        due("fault(0) of \"" + text + "\"", x.fault(0), kind);
        due("fault(1) of \"" + text + "\"", x.fault(1), place);
        due("cells behind \"" + text + "\"", x.count(2), 1);
    }

    static void fill(LastMark x, int tray, int sort, long... numbers) {
        due("numbers(" + tray + ")", x.numbers(tray, sort, numbers.length), 0);
        for (int i = 0; i < numbers.length; i++) {
            x.write(tray, i, numbers[i]);
        }
    }

    /** The answers of count(0), count(1) and so on. */
    static void counts(LastMark x, String when, int... due) {
        for (int what = 0; what < due.length; what++) {
            due("count(" + what + ") " + when, x.count(what), due[what]);
        }
    }
}
