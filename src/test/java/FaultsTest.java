/** The faults of the three texts: which, and where. */
public final class FaultsTest {
    private static final String FOLK = Texts.FOLK;
    private final Check check = new Check();
    private final Texts texts = new Texts(check);

    public static void main(String[] args) {
        FaultsTest test = new FaultsTest();
        test.vestries();
        test.vestriesFull();
        test.books();
        test.sentences();
        test.tooLong();
        test.reservedWords();
        test.check.finish();
    }

    private void vestries() {
        texts.goodVestry(0, "");
        texts.goodVestry(0, " \n \n");
        texts.goodVestry(1, "box a 10 1;");
        texts.goodVestry(1, "\nbox\n a 99 99 ;\n");
        texts.goodVestry(1, "box abcdefg 010 001;");
        texts.goodVestry(2, "plot a 0;plot b 60;");
        texts.goodVestry(2, "dead a 10 0;dead b 99 99;");
        texts.goodVestry(2, "frost 0 1;frost 199 60;");
        texts.goodVestry(1, "air 0;");
        texts.goodVestry(1, "air 9;");
        texts.vestry(1, "|Box a 10 1;");
        texts.vestry(1, "|;");
        texts.vestry(1, "|a 10 1;");
        texts.vestry(1, "|lend a b;");
        texts.vestry(1, "|12 a;");
        texts.vestry(1, "|boxa 10 1;");
        texts.vestry(1, "|box1 10 1;");
        texts.vestry(1, "box |abcdefgh 10 1;");
        texts.vestry(1, "box |a1 10 1;");
        texts.vestry(1, "box |10 1;");
        texts.vestry(1, "box |dead 10 1;");
        texts.vestry(1, "box a |1000 1;");
        texts.vestry(1, "box a |b 1;");
        texts.vestry(1, "box a |1b 1;");
        texts.vestry(1, "box a 10|;");
        texts.vestry(1, "box a 10 1|");
        texts.vestry(1, "box a 10 1  \n|");
        texts.vestry(1, "box a 10 1 |1;");
        texts.vestry(1, "box a 10 1|.");
        texts.vestry(1, "box a 10 1;|;");
        texts.vestry(1, "box a 10 1|\t;");
        texts.vestry(1, "box a|-10 1;");
        texts.vestry(1, "box a 10 1;|\u00e1");
        texts.vestry(1, "box |");
        texts.vestry(2, "box a |9 1;");
        texts.vestry(2, "box a |100 1;");
        texts.vestry(2, "box a |9 0");
        texts.vestry(2, "box a 10 |0;");
        texts.vestry(2, "box a 10 |100;");
        texts.vestry(2, "plot a |61;");
        texts.vestry(2, "dead a |9 0;");
        texts.vestry(2, "dead a |100 0;");
        texts.vestry(2, "dead a 10 |100;");
        texts.vestry(2, "frost |200 1;");
        texts.vestry(2, "frost 0 |0;");
        texts.vestry(2, "frost 0 |61;");
        texts.vestry(2, "air |10;");
        texts.vestry(3, "air 1;|air 1;");
        texts.vestry(3, "air 1;|air 99");
        texts.vestry(3, "box a 10 1;box |a 10 1;");
        texts.vestry(3, "box a 10 1;plot |a 1;");
        texts.vestry(3, "plot a 1;dead |a 10 1;");
        texts.vestry(3, "dead a 10 1;dead |a 9 1;");
        texts.vestry(3, "kin |a b;");
        texts.vestry(3, FOLK + "kin |a k;");
        texts.vestry(3, FOLK + "kin k |p;");
        texts.vestry(3, FOLK + "kin k |z;");
        texts.vestry(3, FOLK + "kin k |k;");
        texts.vestry(1, FOLK + "kin k |kin;");
        texts.vestry(1, FOLK + "kin k |;");
        texts.vestry(1, FOLK + "kin k l|");
        texts.vestry(3, FOLK + "kin k l;kin k |l;");
        texts.vestry(3, FOLK + "kin k l;kin l |k");
        texts.vestry(3, FOLK + "asks |a k;");
        texts.vestry(3, FOLK + "asks k |l;");
        texts.vestry(3, FOLK + "asks k |p;");
        texts.vestry(3, FOLK + "asks k a;asks |k b;");
        texts.vestry(3, FOLK + "asks k a;asks |k");
        texts.goodVestry(7, FOLK + "asks k a;asks l a;");
        texts.vestry(3, "asks |k a;" + FOLK);
    }

    private void vestriesFull() {
        String boxes = Check.many(9, "box b# 50 9;");
        String plots = Check.many(5, "plot p# 5;");
        String dead = Check.many(12, "dead d# 50 9;");
        String frosts = Check.times(4, "frost 1 1;");
        String kin = Check.many(11, "kin dl d#;") + "kin da db;";
        texts.goodVestry(9, boxes);
        texts.goodVestry(5, plots);
        texts.goodVestry(12, dead);
        texts.goodVestry(4, frosts);
        texts.goodVestry(24, dead + kin);
        texts.goodVestry(9 + 5 + 12 + 4 + 12, boxes + plots + dead + frosts + kin);
        texts.vestry(4, boxes + "|box ba 1 1;");
        texts.vestry(4, boxes + "|box");
        texts.vestry(4, plots + "|plot x 5;");
        texts.vestry(4, dead + "|dead x 50 9;");
        texts.vestry(4, frosts + "|frost 999 0;");
        texts.vestry(4, dead + kin + "|kin da da;");
        texts.vestry(1, boxes + "|boxes");
    }

    private void books() {
        texts.book(1, "|box a 50 9;");
        texts.book(1, "|lends k a;");
        texts.book(1, "|;");
        texts.book(1, "|7;");
        texts.book(1, "lend |7 a;");
        texts.book(1, "lend |day a;");
        texts.book(1, "lend k |lend;");
        texts.book(1, "lend k a |b;");
        texts.book(1, "lend k a|");
        texts.book(1, "day 1;day 1;lay k p |");
        texts.book(1, "mend|");
        texts.book(1, "day |k;");
        texts.book(1, "day |0001;");
        texts.book(2, "day |0;");
        texts.book(2, "day 60;day |61;");
        texts.book(3, "lend |a k;");
        texts.book(3, "lend |p a;");
        texts.book(3, "lend k |p;");
        texts.book(3, "lend k |l;");
        texts.book(3, "lend |z a;");
        texts.book(3, "lay k |a;");
        texts.book(3, "lay k |l;");
        texts.book(3, "lay |p p;");
        texts.book(3, "swap k |k;");
        texts.book(3, "swap k |a;");
        texts.book(3, "swap |a k;");
        texts.book(3, "mend |k;");
        texts.book(3, "mend |p;");
        texts.book(4, Check.times(40, "day 1;") + "|day 1;");
        texts.book(4, Check.times(40, "day 1;") + "|mend");
        texts.book(1, Check.times(40, "day 1;") + "|box");
        texts.book(1, Check.times(40, "day 1;") + "|;");
        LentBoxes x = Check.made(FOLK);
        check.promise("a book of 40 lines");
        check.due("answer", Check.book(x, 1, Check.times(40, "day 1;")), -1);
        check.due("fault", x.fault(), 0);
        check.due("day", x.now(0), 40);
        check.due("a fault behind what is wrong", Check.book(x, 1, "lay k p;day 0;"), -2 - 12);
    }

    private void sentences() {
        texts.goodSentence(1, "coming");
        texts.goodSentence(2, "(laid)");
        texts.goodSentence(5, "((laid))and not\nin a");
        texts.goodSentence(1, "number=000");
        texts.goodSentence(20, Check.times(19, "laid or ") + "laid");
        texts.goodSentence(20, "not not (laid) and " + Check.times(15, "laid and ") + "laid");
        texts.goodSentence(8, Check.times(7, "not ") + "laid");
        texts.goodSentence(8, Check.times(7, "(") + "laid" + Check.times(7, ")"));
        texts.goodSentence(15, Check.times(7, "(") + "laid" + Check.times(7, " or laid)"));
        texts.sentence(1, "|");
        texts.sentence(1, "  |");
        texts.sentence(1, "|k");
        texts.sentence(1, "|box");
        texts.sentence(1, "|or laid");
        texts.sentence(1, "|)");
        texts.sentence(1, "|< 3");
        texts.sentence(1, "|7");
        texts.sentence(1, "laid |laid");
        texts.sentence(1, "laid|)");
        texts.sentence(1, "laid |;");
        texts.sentence(1, "laid or|");
        texts.sentence(1, "laid and |or laid");
        texts.sentence(1, "not|");
        texts.sentence(1, "(|");
        texts.sentence(1, "(|)");
        texts.sentence(1, "(laid|");
        texts.sentence(1, "(laid |;");
        texts.sentence(1, "in|");
        texts.sentence(1, "in |laid");
        texts.sentence(1, "in |(a)");
        texts.sentence(1, "kin |7");
        texts.sentence(1, "long |7");
        texts.sentence(1, "long = |a");
        texts.sentence(1, "long =|");
        texts.sentence(1, "long <|= 5");
        texts.sentence(1, "long = |1000");
        texts.sentence(3, "in |k");
        texts.sentence(3, "in |p");
        texts.sentence(3, "in |z");
        texts.sentence(3, "kin |a");
        texts.sentence(3, "laid or kin |z");
        texts.sentence(4, Check.times(20, "laid or ") + "|laid");
        texts.sentence(4, Check.times(20, "laid or ") + "|(laid)");
        texts.sentence(4, Check.times(20, "laid or ") + "|not");
        texts.sentence(1, Check.times(20, "laid or ") + "|z");
        texts.sentence(4, Check.times(19, "laid or ") + "not |laid");
        texts.sentence(4, Check.times(8, "not ") + "|laid");
        texts.sentence(4, Check.times(8, "not ") + "|in z");
        texts.sentence(4, Check.times(8, "(") + "|laid");
        texts.sentence(4, Check.times(8, "(") + "|(laid");
        texts.sentence(1, Check.times(8, "(") + "|)");
        texts.sentence(4, "laid or " + Check.times(4, "not (") + "|laid");
    }

    private void tooLong() {
        texts.goodVestry(1, "air 1;" + Check.times(894, " "));
        texts.vestry(1, "air 1;" + Check.times(894, " ") + "| ");
        texts.vestry(1, "air 1;" + Check.times(890, " ") + "    |;");
        texts.vestry(1, Check.times(900, " ") + "|    ");
        texts.goodVestry(1, Check.times(894, " ") + "air 1;");
        texts.vestry(1, Check.times(895, " ") + "air 1|;");
        texts.vestry(1, Check.times(891, " ") + "plot |abcdefgh 10;");
        texts.vestryAt(1, 900, Check.times(891, " ") + "plot abcdefg 10;");
        texts.vestry(2, Check.times(886, " ") + "plot abcdefg |100;");
        texts.vestry(1, Check.times(887, " ") + "plot abcdefg |100;");
        texts.vestry(1, Check.times(895, " ") + "plot |");
        texts.vestry(1, Check.times(896, " ") + "plot|");
        texts.vestry(1, Check.times(896, " ") + "plot| ");
        texts.vestryAt(1, 900, Check.times(897, " ") + "plot a 1;");
        LentBoxes x = Check.made(FOLK);
        check.promise("a book of 400 and 401 bytes");
        check.due("400", Check.book(x, 1, Check.times(394, "\n") + "day 9;"), -1);
        check.due("401", Check.book(x, 1, Check.times(395, "\n") + "day 9;"), -402);
        check.due("fault", x.fault(), 1);
        check.due("a number read whole", Check.book(x, 1, Check.times(395, "\n") + "day 99;"), -401);
        check.due("fault", x.fault(), 2);
        check.due("401, and a fault ahead", Check.book(x, 1, "lend k z;" + Check.times(500, " ")), -9);
        check.promise("a sentence of 200 and 201 bytes");
        check.due("200", Check.sentence(x, Check.times(196, " ") + "laid"), 1);
        check.due("201", Check.sentence(x, Check.times(197, " ") + "laid"), -201);
        check.due("fault", x.fault(), 1);
        check.due("201 with a blank", Check.sentence(x, Check.times(196, " ") + "laid "), -201);
        check.due("a fault ahead", Check.sentence(x, Check.times(197, " ") + "laidd"), -198);
    }

    private void reservedWords() {
        for (String word : ("box plot dead kin asks frost air lend lay swap mend day or and not coming waiting lying laid"
                + " in long waited lain number").split(" ")) {
            texts.vestry(1, "box |" + word + " 50 9;");
            texts.vestry(1, "plot |" + word + " 50;");
            texts.vestry(1, "dead |" + word + " 50 9;");
            texts.vestry(1, FOLK + "asks k |" + word + ";");
            texts.book(1, "lend k |" + word + ";");
            texts.sentence(1, "kin |" + word);
        }
        for (String name : "boxes name told none rest ring soon who far nor".split(" ")) {
            texts.goodVestry(1, "box " + name + " 50 9;");
        }
    }
}
