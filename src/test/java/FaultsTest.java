/** The faults of the three texts: which, and where. */
public final class FaultsTest {
    private static final String FOLK = "box a 50 9;box b 50 9;plot p 0;dead k 50 0;dead l 50 0;";
    private final Check check = new Check();

    public static void main(String[] args) {
        FaultsTest test = new FaultsTest();
        test.vestries();
        test.vestriesFull();
        test.books();
        test.sentences();
        test.tooLong();
        test.reservedWords();
        test.check.finish();
    }

    /** A text whose fault is at the place marked by '|' in it. */
    private void vestry(int kind, String marked) {
        int place = marked.indexOf('|');
        LentBoxes x = new LentBoxes();
        check.promise("vestry \"" + marked + "\"");
        check.due("answer", Check.vestry(x, marked.replace("|", "")), -1 - place);
        check.due("fault", x.fault(), kind);
    }

    private void good(int lines, String text) {
        LentBoxes x = new LentBoxes();
        check.promise("vestry \"" + text + "\"");
        check.due("lines", Check.vestry(x, text), lines);
        check.due("fault", x.fault(), 0);
    }

    private void vestries() {
        good(0, "");
        good(0, " \n \n");
        good(1, "box a 10 1;");
        good(1, "\nbox\n a 99 99 ;\n");
        good(1, "box abcdefg 010 001;");
        good(2, "plot a 0;plot b 60;");
        good(2, "dead a 10 0;dead b 99 99;");
        good(2, "frost 0 1;frost 199 60;");
        good(1, "air 0;");
        good(1, "air 9;");
        vestry(1, "|Box a 10 1;");
        vestry(1, "|;");
        vestry(1, "|a 10 1;");
        vestry(1, "|lend a b;");
        vestry(1, "|12 a;");
        vestry(1, "|boxa 10 1;");
        vestry(1, "|box1 10 1;");
        vestry(1, "box |abcdefgh 10 1;");
        vestry(1, "box |a1 10 1;");
        vestry(1, "box |10 1;");
        vestry(1, "box |dead 10 1;");
        vestry(1, "box a |1000 1;");
        vestry(1, "box a |b 1;");
        vestry(1, "box a |1b 1;");
        vestry(1, "box a 10|;");
        vestry(1, "box a 10 1|");
        vestry(1, "box a 10 1  \n|");
        vestry(1, "box a 10 1 |1;");
        vestry(1, "box a 10 1|.");
        vestry(1, "box a 10 1;|;");
        vestry(1, "box a 10 1|\t;");
        vestry(1, "box a|-10 1;");
        vestry(1, "box a 10 1;|\u00e1");
        vestry(1, "box |");
        vestry(2, "box a |9 1;");
        vestry(2, "box a |100 1;");
        vestry(2, "box a |9 0");
        vestry(2, "box a 10 |0;");
        vestry(2, "box a 10 |100;");
        vestry(2, "plot a |61;");
        vestry(2, "dead a |9 0;");
        vestry(2, "dead a |100 0;");
        vestry(2, "dead a 10 |100;");
        vestry(2, "frost |200 1;");
        vestry(2, "frost 0 |0;");
        vestry(2, "frost 0 |61;");
        vestry(2, "air |10;");
        vestry(3, "air 1;|air 1;");
        vestry(3, "air 1;|air 99");
        vestry(3, "box a 10 1;box |a 10 1;");
        vestry(3, "box a 10 1;plot |a 1;");
        vestry(3, "plot a 1;dead |a 10 1;");
        vestry(3, "dead a 10 1;dead |a 9 1;");
        vestry(3, "kin |a b;");
        vestry(3, FOLK + "kin |a k;");
        vestry(3, FOLK + "kin k |p;");
        vestry(3, FOLK + "kin k |z;");
        vestry(3, FOLK + "kin k |k;");
        vestry(1, FOLK + "kin k |kin;");
        vestry(1, FOLK + "kin k |;");
        vestry(1, FOLK + "kin k l|");
        vestry(3, FOLK + "kin k l;kin k |l;");
        vestry(3, FOLK + "kin k l;kin l |k");
        vestry(3, FOLK + "asks |a k;");
        vestry(3, FOLK + "asks k |l;");
        vestry(3, FOLK + "asks k |p;");
        vestry(3, FOLK + "asks k a;asks |k b;");
        vestry(3, FOLK + "asks k a;asks |k");
        good(7, FOLK + "asks k a;asks l a;");
        vestry(3, "asks |k a;" + FOLK);
    }

    private void vestriesFull() {
        String boxes = Check.many(9, "box b# 50 9;");
        String plots = Check.many(5, "plot p# 5;");
        String dead = Check.many(12, "dead d# 50 9;");
        String frosts = Check.times(4, "frost 1 1;");
        String kin = Check.many(11, "kin dl d#;") + "kin da db;";
        good(9, boxes);
        good(5, plots);
        good(12, dead);
        good(4, frosts);
        good(24, dead + kin);
        good(9 + 5 + 12 + 4 + 12, boxes + plots + dead + frosts + kin);
        vestry(4, boxes + "|box ba 1 1;");
        vestry(4, boxes + "|box");
        vestry(4, plots + "|plot x 5;");
        vestry(4, dead + "|dead x 50 9;");
        vestry(4, frosts + "|frost 999 0;");
        vestry(4, dead + kin + "|kin da da;");
        vestry(1, boxes + "|boxes");
    }

    private void book(int kind, String marked) {
        int place = marked.indexOf('|');
        LentBoxes x = Check.made(FOLK);
        check.promise("book \"" + marked + "\"");
        check.due("answer", Check.book(x, 1, marked.replace("|", "")), -2 - place);
        check.due("fault", x.fault(), kind);
        check.due("nothing was lived", x.now(0), 0);
    }

    private void books() {
        book(1, "|box a 50 9;");
        book(1, "|lends k a;");
        book(1, "|;");
        book(1, "|7;");
        book(1, "lend |7 a;");
        book(1, "lend |day a;");
        book(1, "lend k |lend;");
        book(1, "lend k a |b;");
        book(1, "lend k a|");
        book(1, "day 1;day 1;lay k p |");
        book(1, "mend|");
        book(1, "day |k;");
        book(1, "day |0001;");
        book(2, "day |0;");
        book(2, "day 60;day |61;");
        book(3, "lend |a k;");
        book(3, "lend |p a;");
        book(3, "lend k |p;");
        book(3, "lend k |l;");
        book(3, "lend |z a;");
        book(3, "lay k |a;");
        book(3, "lay k |l;");
        book(3, "lay |p p;");
        book(3, "swap k |k;");
        book(3, "swap k |a;");
        book(3, "swap |a k;");
        book(3, "mend |k;");
        book(3, "mend |p;");
        book(4, Check.times(40, "day 1;") + "|day 1;");
        book(4, Check.times(40, "day 1;") + "|mend");
        book(1, Check.times(40, "day 1;") + "|box");
        book(1, Check.times(40, "day 1;") + "|;");
        LentBoxes x = Check.made(FOLK);
        check.promise("a book of 40 lines");
        check.due("answer", Check.book(x, 1, Check.times(40, "day 1;")), -1);
        check.due("fault", x.fault(), 0);
        check.due("day", x.now(0), 40);
        check.due("a fault behind what is wrong", Check.book(x, 1, "lay k p;day 0;"), -2 - 12);
    }

    private void sentence(int kind, String marked) {
        int place = marked.indexOf('|');
        LentBoxes x = Check.made(FOLK);
        check.promise("sentence \"" + marked + "\"");
        check.due("answer", Check.sentence(x, marked.replace("|", "")), -1 - place);
        check.due("fault", x.fault(), kind);
        check.due("no sentence", x.said(-1), -1);
    }

    private void goodSentence(int ones, String text) {
        LentBoxes x = Check.made(FOLK);
        check.promise("sentence \"" + text + "\"");
        check.due("ones", Check.sentence(x, text), ones);
        check.due("fault", x.fault(), 0);
    }

    private void sentences() {
        goodSentence(1, "coming");
        goodSentence(2, "(laid)");
        goodSentence(5, "((laid))and not\nin a");
        goodSentence(1, "number=000");
        goodSentence(20, Check.times(19, "laid or ") + "laid");
        goodSentence(20, "not not (laid) and " + Check.times(15, "laid and ") + "laid");
        goodSentence(8, Check.times(7, "not ") + "laid");
        goodSentence(8, Check.times(7, "(") + "laid" + Check.times(7, ")"));
        goodSentence(15, Check.times(7, "(") + "laid" + Check.times(7, " or laid)"));
        sentence(1, "|");
        sentence(1, "  |");
        sentence(1, "|k");
        sentence(1, "|box");
        sentence(1, "|or laid");
        sentence(1, "|)");
        sentence(1, "|< 3");
        sentence(1, "|7");
        sentence(1, "laid |laid");
        sentence(1, "laid|)");
        sentence(1, "laid |;");
        sentence(1, "laid or|");
        sentence(1, "laid and |or laid");
        sentence(1, "not|");
        sentence(1, "(|");
        sentence(1, "(|)");
        sentence(1, "(laid|");
        sentence(1, "(laid |;");
        sentence(1, "in|");
        sentence(1, "in |laid");
        sentence(1, "in |(a)");
        sentence(1, "kin |7");
        sentence(1, "long |7");
        sentence(1, "long = |a");
        sentence(1, "long =|");
        sentence(1, "long <|= 5");
        sentence(1, "long = |1000");
        sentence(3, "in |k");
        sentence(3, "in |p");
        sentence(3, "in |z");
        sentence(3, "kin |a");
        sentence(3, "laid or kin |z");
        sentence(4, Check.times(20, "laid or ") + "|laid");
        sentence(4, Check.times(20, "laid or ") + "|(laid)");
        sentence(4, Check.times(20, "laid or ") + "|not");
        sentence(1, Check.times(20, "laid or ") + "|z");
        sentence(4, Check.times(19, "laid or ") + "not |laid");
        sentence(4, Check.times(8, "not ") + "|laid");
        sentence(4, Check.times(8, "not ") + "|in z");
        sentence(4, Check.times(8, "(") + "|laid");
        sentence(4, Check.times(8, "(") + "|(laid");
        sentence(1, Check.times(8, "(") + "|)");
        sentence(4, "laid or " + Check.times(4, "not (") + "|laid");
    }

    private void tooLong() {
        good(1, "air 1;" + Check.times(894, " "));
        vestry(1, "air 1;" + Check.times(894, " ") + "| ");
        vestry(1, "air 1;" + Check.times(890, " ") + "    |;");
        vestry(1, Check.times(900, " ") + "|    ");
        good(1, Check.times(894, " ") + "air 1;");
        vestry(1, Check.times(895, " ") + "air 1|;");
        vestry(1, Check.times(891, " ") + "plot |abcdefgh 10;");
        vestry(1, Check.times(891, " ") + "plot abcdefg 10;", 900);
        vestry(2, Check.times(886, " ") + "plot abcdefg |100;");
        vestry(1, Check.times(887, " ") + "plot abcdefg |100;");
        vestry(1, Check.times(895, " ") + "plot |");
        vestry(1, Check.times(896, " ") + "plot|");
        vestry(1, Check.times(896, " ") + "plot| ");
        vestry(1, Check.times(897, " ") + "plot a 1;", 900);
        LentBoxes x = Check.made(FOLK);
        check.promise("a book of 400 and 401 bytes");
        check.due("400", Check.book(x, 1, Check.times(394, "\n") + "day 9;"), -1);
        check.due("401", Check.book(x, 1, Check.times(395, "\n") + "day 9;"), -402);
        check.due("fault", x.fault(), 1);
        check.due("a number read whole", Check.book(x, 1, Check.times(395, "\n") + "day 99;"), -401);
        check.due("fault", x.fault(), 2);
        check.due("401, and a fault ahead", Check.book(x, 1, "lend k z;" + Check.times(500, " ")), -9);
        check.promise("a sentence of 200 and 201 bytes");
        check.due("200", Check.sentence(x, Check.times(196, " ") + "laid"), 1);
        check.due("201", Check.sentence(x, Check.times(197, " ") + "laid"), -201);
        check.due("fault", x.fault(), 1);
        check.due("201 with a blank", Check.sentence(x, Check.times(196, " ") + "laid "), -201);
        check.due("a fault ahead", Check.sentence(x, Check.times(197, " ") + "laidd"), -198);
    }

    private void vestry(int kind, String text, int place) {
        LentBoxes x = new LentBoxes();
        check.promise("vestry with a fault at " + place);
        check.due("answer", Check.vestry(x, text), -1 - place);
        check.due("fault", x.fault(), kind);
    }

    private void reservedWords() {
        for (String word : ("box plot dead kin asks frost air lend lay swap mend day or and not coming waiting lying laid"
                + " in long waited lain number").split(" ")) {
            vestry(1, "box |" + word + " 50 9;");
            vestry(1, "plot |" + word + " 50;");
            vestry(1, "dead |" + word + " 50 9;");
            vestry(1, FOLK + "asks k |" + word + ";");
            book(1, "lend k |" + word + ";");
            sentence(1, "kin |" + word);
        }
        for (String name : "boxes name told none rest ring soon who far nor".split(" ")) {
            good(1, "box " + name + " 50 9;");
        }
    }
}
