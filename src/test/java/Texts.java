/** Texts with and without faults; where a fault is due, the text has a '|' at its place. */
final class Texts {
    static final String FOLK = "box a 50 9;box b 50 9;plot p 0;dead k 50 0;dead l 50 0;";

    private final Check check;

    Texts(Check check) {
        this.check = check;
    }

    private static String without(String marked) {
        return marked.replace("|", "");
    }

    void vestry(int kind, String marked) {
        vestryAt(kind, marked.indexOf('|'), without(marked));
    }

    void vestryAt(int kind, int place, String text) {
        LentBoxes x = new LentBoxes();
        String what = "vestry \"" + text + "\"";
        check.due(what, Check.vestry(x, text), -1 - place);
        check.due(what + " fault", x.fault(), kind);
        check.due(what + " tape", x.count(6), 0);
    }

    LentBoxes goodVestry(int lines, String text) {
        LentBoxes x = new LentBoxes();
        String what = "vestry \"" + text + "\"";
        check.due(what, Check.vestry(x, text), lines);
        check.due(what + " fault", x.fault(), 0);
        return x;
    }

    void book(int kind, String marked) {
        bookAt(kind, marked.indexOf('|'), without(marked));
    }

    void bookAt(int kind, int place, String text) {
        LentBoxes x = Check.made(FOLK);
        String what = "book \"" + text + "\"";
        check.due(what, Check.book(x, 1, text), -2 - place);
        check.due(what + " fault", x.fault(), kind);
        check.due(what + " lives not", x.now(0) + x.now(3), 0);
        check.due(what + " tape", x.count(6), 0);
    }

    LentBoxes goodBook(String text) {
        LentBoxes x = Check.made(FOLK);
        String what = "book \"" + text + "\"";
        check.due(what, Check.book(x, 1, text), LentBoxes.NONE);
        check.due(what + " fault", x.fault(), 0);
        return x;
    }

    void sentence(int kind, String marked) {
        sentenceAt(kind, marked.indexOf('|'), without(marked));
    }

    void sentenceAt(int kind, int place, String text) {
        LentBoxes x = Check.made(FOLK);
        String what = "sentence \"" + text + "\"";
        check.due(what, Check.sentence(x, text), -1 - place);
        check.due(what + " fault", x.fault(), kind);
        check.due(what + " is none", x.said(LentBoxes.NONE), LentBoxes.NONE);
        check.due(what + " tape", x.count(6), 0);
    }

    LentBoxes goodSentence(int ones, String text) {
        LentBoxes x = Check.made(FOLK);
        String what = "sentence \"" + text + "\"";
        check.due(what, Check.sentence(x, text), ones);
        check.due(what + " fault", x.fault(), 0);
        return x;
    }
}
