/** Part 1 of the document's Terms: each sentence that names an edge of the three texts has its own test. */
public final class EdgesOfTextsTest {
    private static final String FOLK = Texts.FOLK;
    private static final int NONE = LentBoxes.NONE;

    private final Check check = new Check();
    private final Texts texts = new Texts(check);

    public static void main(String[] args) throws ReflectiveOperationException {
        EdgesOfTextsTest tests = new EdgesOfTextsTest();
        tests.check.runEach(tests);
        tests.check.finish();
    }

    private static String blanks(int n) {
        return " ".repeat(n);
    }

    /** A number of a text: the least and the most are as told, one below and one above are not. */
    private void numberOfVestry(String before, int least, int most, String behind) {
        texts.goodVestry(1, before + least + behind);
        texts.goodVestry(1, before + most + behind);
        texts.vestry(2, before + "|" + (most + 1) + behind);
        texts.vestry(2, before + "|999" + behind);
        if (least > 0) {
            texts.vestry(2, before + "|" + (least - 1) + behind);
            texts.vestry(2, before + "|000" + behind);
        }
    }

    void terms1_tokens_words_have_1_to_7_letters() {
        texts.goodVestry(1, "plot a 1;");
        texts.goodVestry(1, "plot abcdefg 1;");
        texts.goodVestry(1, "plot zzzzzzz 1;");
        texts.vestry(1, "plot |abcdefgh 1;");
        texts.vestry(1, "plot |" + "a".repeat(300) + " 1;");
        texts.vestry(1, "|plotplot a 1;");
    }

    void terms1_tokens_words_of_7_letters_differ_in_any_of_them() {
        texts.goodVestry(3, "plot aaaaaaa 1;plot aaaaaab 1;plot baaaaaa 1;");
        texts.goodVestry(2, "plot a 1;plot aa 1;");
        texts.vestry(3, "plot aaaaaaa 1;plot |aaaaaaa 1;");
    }

    void terms1_tokens_numbers_have_1_to_3_digits() {
        texts.goodVestry(3, "plot a 5;plot b 05;plot c 005;");
        texts.vestry(1, "plot a |0005;");
        texts.vestry(1, "plot a |" + "1".repeat(300) + ";");
        texts.vestry(1, "plot a |4294967301;");
    }

    void terms1_tokens_blanks_are_32_and_10_and_every_other_byte_is_none() {
        for (int c = 0; c < 256; c++) {
            char sign = (char) c;
            boolean letter = sign >= 'a' && sign <= 'z';
            boolean digit = sign >= '0' && sign <= '9';
            if (sign == ' ' || sign == '\n') {
                texts.goodVestry(1, "air 1" + sign + ";");
                texts.goodVestry(1, sign + "air" + sign + "1;" + sign);
            } else if (letter) {
                texts.vestryAt(1, 4, "air 1" + sign + ";");
            } else if (digit) {
                texts.vestryAt(2, 4, "air 1" + sign + ";");
            } else if (sign != ';') {
                texts.vestryAt(1, 5, "air 1" + sign + ";");
                texts.vestryAt(1, 0, sign + "air 1;");
            }
        }
    }

    void terms1_tokens_stand_with_blanks_between_them_or_not() {
        texts.goodVestry(2, "plot a 1;plot b 2;");
        texts.goodVestry(2, "\n\n plot \n a  1 ; plot\nb\n2\n;  ");
        texts.goodSentence(7, "(laid)and(long<5 or not(laid))");
        texts.goodSentence(1, "long<5");
        texts.goodSentence(1, " long \n < \n 5 ");
    }

    void terms1_tokens_a_word_or_number_goes_on_as_long_as_letters_and_digits_do() {
        texts.vestry(1, "plot |a1;");
        texts.vestry(1, "plot a |1b;");
        texts.vestry(1, "|plot1 a 1;");
        texts.vestry(1, "plot a |60a;");
        texts.sentence(1, "long=|5and laid");
        texts.sentence(1, "|laid1");
        texts.book(1, "day |1day;");
    }

    void terms1_tokens_the_point_never_comes() {
        texts.vestry(1, "air 1|.");
        texts.book(1, "day 1|.");
        texts.sentence(1, "laid|.");
    }

    void terms1_vestry_has_at_most_900_bytes() {
        texts.goodVestry(1, blanks(894) + "air 1;");
        texts.goodVestry(1, "air 1;" + blanks(894));
        texts.goodVestry(0, blanks(900));
        texts.vestryAt(1, 900, blanks(895) + "air 1;");
        texts.vestryAt(1, 900, "air 1;" + blanks(895));
        texts.vestryAt(1, 900, blanks(901));
        texts.vestryAt(1, 900, "air 1;" + blanks(934));
    }

    void terms1_vestry_may_have_no_line() {
        texts.goodVestry(0, "");
        texts.goodVestry(0, "\n ");
        texts.vestry(1, "|;");
        texts.vestry(1, "air 1;|;");
    }

    void terms1_vestry_each_line_ends_with_its_sign() {
        texts.vestry(1, "air 1|");
        texts.vestry(1, "air 1 |air 1;");
        texts.vestry(1, "plot a 1 |plot b 1;");
    }

    void terms1_box_long_10_to_99() {
        numberOfVestry("box a ", 10, 99, " 5;");
    }

    void terms1_box_lasts_1_to_99() {
        numberOfVestry("box a 50 ", 1, 99, ";");
    }

    void terms1_plot_rests_0_to_60() {
        numberOfVestry("plot a ", 0, 60, ";");
    }

    void terms1_dead_long_10_to_99() {
        numberOfVestry("dead a ", 10, 99, " 5;");
    }

    void terms1_dead_day_0_to_99() {
        numberOfVestry("dead a 50 ", 0, 99, ";");
    }

    void terms1_frost_from_0_to_199() {
        numberOfVestry("frost ", 0, 199, " 5;");
    }

    void terms1_frost_many_1_to_60() {
        numberOfVestry("frost 5 ", 1, 60, ";");
    }

    void terms1_air_0_to_9() {
        numberOfVestry("air ", 0, 9, ";");
    }

    void terms1_air_is_1_without() {
        check.due("without", Check.made(FOLK).count(5), 1);
        check.due("0", Check.made("air 0;").count(5), 0);
        LentBoxes x = Check.made("air 9;");
        check.due("9", x.count(5), 9);
        Check.vestry(x, FOLK);
        check.due("without, behind one with 9", x.count(5), 1);
    }

    void terms1_air_is_told_once_fault_3_at_the_word() {
        texts.vestry(3, "air 1;|air 1;");
        texts.vestry(3, "air 1;" + FOLK + "|air 2;");
        texts.vestry(3, "air 0;|air");
        texts.vestry(3, "air 1;|air 10;");
        LentBoxes x = Check.made("air 3;");
        check.due("a new vestry tells it anew", Check.vestry(x, "air 4;"), 1);
    }

    void terms1_kin_each_two_once_whichever_first() {
        texts.goodVestry(6, FOLK + "kin k l;");
        texts.vestry(3, FOLK + "kin k l;kin k |l;");
        texts.vestry(3, FOLK + "kin k l;kin l |k;");
        texts.goodVestry(8, FOLK + "dead m 50 0;kin k l;kin m l;");
        texts.goodVestry(9, FOLK + "dead m 50 0;kin k l;kin m l;kin m k;");
    }

    void terms1_kin_the_second_of_two_that_are_alike() {
        texts.vestry(3, FOLK + "kin k |k;");
        texts.vestry(3, FOLK + "kin k l;kin l |l;");
    }

    void terms1_kin_not_told_or_of_another_sort() {
        texts.vestry(3, FOLK + "kin |z k;");
        texts.vestry(3, FOLK + "kin |a k;");
        texts.vestry(3, FOLK + "kin |p k;");
        texts.vestry(3, FOLK + "kin k |z;");
        texts.vestry(3, FOLK + "kin k |b;");
        texts.vestry(3, FOLK + "kin k |p;");
        texts.vestry(3, "kin |k l;" + FOLK);
        texts.vestry(3, "dead k 50 0;kin k |l;dead l 50 0;");
    }

    void terms1_asks_once_for_each_fault_3_at_him() {
        texts.goodVestry(7, FOLK + "asks k a;asks l a;");
        texts.vestry(3, FOLK + "asks k a;asks |k a;");
        texts.vestry(3, FOLK + "asks k a;asks l b;asks |l a;");
        texts.vestry(3, FOLK + "asks k a;asks |k z;");
    }

    void terms1_asks_not_told_or_of_another_sort() {
        texts.vestry(3, FOLK + "asks |z a;");
        texts.vestry(3, FOLK + "asks |a a;");
        texts.vestry(3, FOLK + "asks |p a;");
        texts.vestry(3, FOLK + "asks k |z;");
        texts.vestry(3, FOLK + "asks k |l;");
        texts.vestry(3, FOLK + "asks k |p;");
        texts.vestry(3, "dead k 50 0;asks k |a;box a 50 5;");
    }

    void terms1_names_are_none_of_the_words_told_in_any_text() {
        for (String word : ("box plot dead kin asks frost air lend lay swap mend day or and not coming waiting lying laid"
                + " in long waited lain number").split(" ")) {
            texts.vestry(1, "box |" + word + " 50 9;");
            texts.vestry(1, "plot |" + word + " 50;");
            texts.vestry(1, "dead |" + word + " 50 9;");
            texts.goodVestry(1, "dead x" + word.substring(1) + " 50 9;");
        }
    }

    void terms1_names_are_told_once_among_all_sorts() {
        String[] lines = {"box n 50 9;", "plot n 9;", "dead n 50 9;"};
        String[] again = {"box |n 50 9;", "plot |n 9;", "dead |n 50 9;"};
        for (String line : lines) {
            for (String second : again) {
                texts.vestry(3, line + second);
                texts.vestry(3, line + FOLK + second);
            }
        }
    }

    void terms1_names_of_the_last_vestry_are_told_no_more() {
        LentBoxes x = Check.made("box n 50 9;dead m 50 0;");
        check.due("the same names again", Check.vestry(x, "dead n 50 9;plot m 1;"), 2);
        check.due("in another sort", Check.vestry(x, "kin n n;"), -1 - 4);
    }

    void terms1_at_most_9_boxes() {
        texts.goodVestry(9, Check.many(9, "box x# 50 9;"));
        texts.vestry(4, Check.many(9, "box x# 50 9;") + "|box y 50 9;");
        texts.vestry(4, Check.many(9, "box x# 50 9;") + "|box");
    }

    void terms1_at_most_5_plots() {
        texts.goodVestry(5, Check.many(5, "plot x# 9;"));
        texts.vestry(4, Check.many(5, "plot x# 9;") + "|plot y 9;");
        texts.vestry(4, Check.many(5, "plot x# 9;") + "|plot xa 99;");
    }

    void terms1_at_most_12_dead() {
        texts.goodVestry(12, Check.many(12, "dead x# 50 9;"));
        texts.vestry(4, Check.many(12, "dead x# 50 9;") + "|dead y 50 9;");
        texts.vestry(4, Check.many(12, "dead x# 50 9;") + "|dead;");
    }

    void terms1_at_most_12_kin() {
        String twelve = Check.many(12, "dead x# 50 9;") + Check.many(11, "kin xl x#;") + "kin xa xb;";
        texts.goodVestry(24, twelve);
        texts.vestry(4, twelve + "|kin xa xc;");
        texts.vestry(4, twelve + "|kin xa xa;");
    }

    void terms1_at_most_4_frosts() {
        texts.goodVestry(4, Check.times(4, "frost 9 9;"));
        texts.vestry(4, Check.times(4, "frost 9 9;") + "|frost 9 9;");
        texts.vestry(4, Check.times(4, "frost 9 9;") + "|frost 999 9;");
    }

    void terms1_all_sorts_full_at_once() {
        String all = Check.many(9, "box b# 50 9;") + Check.many(5, "plot p# 9;") + Check.many(12, "dead d# 50 9;")
                + Check.many(11, "kin dl d#;") + "kin da db;" + Check.many(12, "asks d# ba;") + Check.times(4, "frost 9 9;")
                + "air 9;";
        LentBoxes x = texts.goodVestry(9 + 5 + 12 + 12 + 12 + 4 + 1, all);
        int[] want = {9, 5, 12, 12, 4, 9};
        for (int what = 0; what < 6; what++) {
            check.due("count(" + what + ")", x.count(what), want[what]);
        }
    }

    void terms1_all_are_numbered_from_0() {
        LentBoxes x = Check.made("plot p 7;dead k 51 0;box a 61 9;dead l 52 0;box b 62 9;plot q 8;");
        check.due("first box", x.box(0, 0), 61);
        check.due("second box", x.box(1, 0), 62);
        check.due("first plot", x.plot(0, 0), 7);
        check.due("second plot", x.plot(1, 0), 8);
        check.due("first of the dead", x.dead(0, 0), 51);
        check.due("second of the dead", x.dead(1, 0), 52);
    }

    void terms1_book_has_at_most_400_bytes() {
        check.due("400", texts.goodBook(blanks(394) + "day 9;").now(0), 9);
        check.due("400, blank behind", texts.goodBook("day 9;" + blanks(394)).now(0), 9);
        texts.goodBook(blanks(400));
        texts.bookAt(1, 400, blanks(395) + "day 9;");
        texts.bookAt(1, 400, "day 9;" + blanks(395));
        texts.bookAt(1, 400, blanks(401));
        texts.bookAt(1, 400, "day 9;" + blanks(934));
    }

    void terms1_book_may_have_no_line() {
        texts.goodBook("");
        texts.goodBook(" \n");
        texts.book(1, "|;");
        texts.book(1, "day 1;|;");
    }

    void terms1_book_has_at_most_40_lines() {
        check.due("40", texts.goodBook(Check.times(40, "day 1;")).now(0), 40);
        texts.book(4, Check.times(40, "day 1;") + "|day 1;");
        texts.book(4, Check.times(40, "day 1;") + "|lend");
        texts.book(4, Check.times(40, "day 1;") + "|day 99;");
        texts.book(1, Check.times(40, "day 1;") + "|k");
        texts.book(1, Check.times(40, "day 1;") + "|box");
    }

    void terms1_book_day_1_to_60() {
        check.due("1", texts.goodBook("day 1;").now(0), 1);
        check.due("60", texts.goodBook("day 60;").now(0), 60);
        texts.book(2, "day |0;");
        texts.book(2, "day |61;");
        texts.book(2, "day |999;");
        texts.book(1, "day |1000;");
        texts.book(1, "day|;");
    }

    void terms1_book_swap_two_who_are_unlike() {
        texts.book(3, "swap k |k;");
        texts.book(3, "swap l |l;");
        check.due("unlike is no fault", Check.book(Check.made(FOLK), 0, "swap k l;"), 0);
    }

    void terms1_book_not_told_or_of_another_sort() {
        for (String other : new String[] {"a", "p", "z"}) {
            texts.book(3, "lend |" + other + " a;");
            texts.book(3, "lay |" + other + " p;");
            texts.book(3, "swap |" + other + " k;");
            texts.book(3, "swap k |" + other + ";");
        }
        for (String other : new String[] {"k", "p", "z"}) {
            texts.book(3, "lend k |" + other + ";");
            texts.book(3, "mend |" + other + ";");
        }
        for (String other : new String[] {"k", "a", "z"}) {
            texts.book(3, "lay k |" + other + ";");
        }
    }

    void terms1_book_the_words_of_other_texts_can_not_come() {
        for (String word : "box plot dead kin asks frost air or and not coming laid in long".split(" ")) {
            texts.book(1, "|" + word + " k a;");
            texts.book(1, "lend |" + word + " a;");
            texts.book(1, "lend k |" + word + ";");
        }
    }

    void terms1_sentence_has_at_most_200_bytes() {
        texts.goodSentence(1, blanks(196) + "laid");
        texts.goodSentence(1, "laid" + blanks(196));
        texts.sentenceAt(1, 200, blanks(197) + "laid");
        texts.sentenceAt(1, 200, "laid" + blanks(197));
        texts.sentenceAt(1, 200, "laid" + blanks(936));
        texts.sentenceAt(1, 200, blanks(201));
        texts.sentenceAt(1, 200, blanks(200) + "laid");
    }

    void terms1_sentence_has_at_least_one_one() {
        texts.sentence(1, "|");
        texts.sentence(1, "  \n|");
        texts.sentence(1, "(|)");
        texts.sentence(1, "not|");
        texts.sentence(1, "laid or|");
        texts.sentence(1, "laid and|");
        texts.sentence(1, "|or laid");
        texts.sentence(1, "|and laid");
    }

    void terms1_sentence_of_20_ones() {
        texts.goodSentence(20, Check.times(19, "laid or ") + "laid");
        texts.goodSentence(20, Check.times(19, "laid and ") + "laid");
        texts.goodSentence(20, Check.times(18, "laid or ") + "not laid");
        texts.goodSentence(20, Check.times(18, "laid or ") + "(laid)");
        texts.sentence(4, Check.times(20, "laid or ") + "|laid");
        texts.sentence(4, Check.times(20, "laid and ") + "|not");
        texts.sentence(4, Check.times(20, "laid and ") + "|(");
        texts.sentence(4, Check.times(19, "laid or ") + "not |laid");
        texts.sentence(4, Check.times(19, "laid or ") + "(|in a");
        texts.sentence(4, Check.times(20, "laid or ") + "|kin z");
        texts.sentence(4, Check.times(20, "laid or ") + "|long 5");
    }

    void terms1_sentence_of_20_ones_and_no_one_can_come() {
        texts.sentence(1, Check.times(20, "laid or ") + "|or");
        texts.sentence(1, Check.times(20, "laid or ") + "|z");
        texts.sentence(1, Check.times(20, "laid or ") + "|");
        texts.sentence(1, Check.times(19, "laid or ") + "laid |laid");
    }

    void terms1_sentence_8_within_one_another() {
        texts.goodSentence(8, Check.times(7, "not ") + "laid");
        texts.goodSentence(8, Check.times(7, "(") + "laid" + Check.times(7, ")"));
        texts.goodSentence(16, Check.times(7, "not ") + "laid or " + Check.times(7, "not ") + "laid");
        texts.goodSentence(15, Check.times(7, "(") + "laid" + Check.times(7, " or laid)"));
        texts.sentence(4, Check.times(8, "not ") + "|laid");
        texts.sentence(4, Check.times(8, "not ") + "|not laid");
        texts.sentence(4, Check.times(8, "(") + "|laid" + Check.times(8, ")"));
        texts.sentence(4, Check.times(8, "(") + "|(");
        texts.sentence(4, Check.times(4, "not (") + "|in a");
        texts.sentence(4, "laid or " + Check.times(8, "(") + "|laid");
        texts.sentence(4, Check.times(7, "(") + "laid or not |laid");
        texts.sentence(1, Check.times(8, "not ") + "|and");
        texts.sentence(1, Check.times(8, "(") + "|)");
    }

    void terms1_sentence_numbers_of_any_digits() {
        LentBoxes x = texts.goodSentence(1, "long < 999");
        check.due("of both", x.said(NONE), 2);
        x = texts.goodSentence(1, "long > 000");
        check.due("of both", x.said(NONE), 2);
        x = texts.goodSentence(1, "number = 0");
        check.due("of one", x.said(NONE), 1);
        texts.sentence(1, "long < |1000");
        texts.sentence(1, "long < |");
        texts.sentence(1, "long <|-1");
    }

    void terms1_sentence_not_told_or_of_another_sort() {
        texts.sentence(3, "in |k");
        texts.sentence(3, "in |p");
        texts.sentence(3, "in |z");
        texts.sentence(3, "kin |a");
        texts.sentence(3, "kin |p");
        texts.sentence(3, "kin |z");
    }

    void terms1_sentence_one_sign_alone() {
        texts.sentence(1, "long <|= 5");
        texts.sentence(1, "long =|= 5");
        texts.sentence(1, "long |5");
        texts.sentence(1, "long |(5)");
        texts.sentence(1, "long |");
        texts.sentence(1, "laid |< 5");
    }

    void terms1_sentence_brackets_close() {
        texts.sentence(1, "(laid|");
        texts.sentence(1, "((laid)|");
        texts.sentence(1, "laid|)");
        texts.sentence(1, "(laid)|)");
        texts.sentence(1, "(laid |;");
    }

    void terms1_faults_the_end_is_at_how_many_bytes_there_are() {
        texts.vestry(1, "box|");
        texts.vestry(1, "box   \n|");
        texts.vestry(1, "box a 10 1|");
        texts.book(1, "lend k|");
        texts.book(1, "lend k a  |");
        texts.sentence(1, "|");
        texts.sentence(1, "not  |");
        texts.vestryAt(1, 900, "box" + blanks(897));
        texts.vestryAt(1, 899, "box" + blanks(896));
    }

    void terms1_faults_at_the_most_bytes_told_if_there_are_more() {
        texts.vestryAt(1, 900, "box" + blanks(898));
        texts.vestryAt(1, 900, blanks(897) + "box a 10 1;");
        texts.bookAt(1, 400, blanks(397) + "day 9;");
        texts.sentenceAt(1, 200, blanks(196) + "laid laid");
        texts.sentenceAt(1, 200, blanks(197) + "not laid");
    }

    void terms1_faults_ahead_of_the_most_bytes_go_first() {
        texts.vestryAt(2, 4, "air 10;" + blanks(900));
        texts.vestryAt(1, 899, blanks(899) + ";;");
        texts.bookAt(3, 5, "lend z a;" + blanks(500));
        texts.bookAt(1, 399, blanks(399) + ";;");
        texts.sentenceAt(3, 3, "in k" + blanks(500));
        texts.sentenceAt(1, 199, blanks(199) + ")laid");
    }

    void terms1_faults_tokens_that_begin_ahead_of_the_most_bytes_are_read_whole() {
        texts.vestryAt(1, 899, blanks(894) + "plot abcdefgh 1;");
        texts.vestryAt(1, 900, blanks(894) + "plot abcdefg 1;");
        texts.vestryAt(2, 899, blanks(895) + "air 10;");
        texts.vestryAt(1, 899, blanks(895) + "air 1000;");
        texts.vestryAt(1, 900, blanks(896) + "air 10;");
        texts.vestryAt(1, 899, blanks(899) + "ai");
        texts.vestryAt(1, 900, blanks(899) + "air 1;");
        texts.bookAt(2, 399, blanks(395) + "day 61;");
        texts.bookAt(1, 400, blanks(395) + "day 60;");
        texts.bookAt(1, 400, blanks(396) + "day 61;");
        texts.sentenceAt(1, 199, blanks(199) + "lai");
        texts.sentenceAt(1, 200, blanks(199) + "laid");
        texts.sentenceAt(3, 199, blanks(196) + "in kk");
        texts.sentenceAt(1, 200, blanks(197) + "in kk");
    }

    void terms1_faults_a_token_of_another_kind_can_not_come() {
        texts.vestry(1, "box |10 10 1;");
        texts.vestry(1, "box a |b 1;");
        texts.vestry(1, "box a 10 |b;");
        texts.vestry(1, "plot a |b;");
        texts.vestry(1, "dead a 10 |b;");
        texts.vestry(1, "frost |a 1;");
        texts.vestry(1, "frost 1 |a;");
        texts.vestry(1, "air |a;");
        texts.vestry(1, FOLK + "kin |1 k;");
        texts.vestry(1, FOLK + "kin k |1;");
        texts.vestry(1, FOLK + "asks |1 a;");
        texts.vestry(1, FOLK + "asks k |1;");
        texts.vestry(1, "box a 10 1|<");
        texts.book(1, "lend |1 a;");
        texts.book(1, "lend k |1;");
        texts.book(1, "lay k |1;");
        texts.book(1, "swap k |1;");
        texts.book(1, "mend |1;");
        texts.book(1, "day |k;");
        texts.sentence(1, "in |1");
        texts.sentence(1, "kin |1");
        texts.sentence(1, "number = |k");
        texts.sentence(1, "|1");
    }

    void terms1_faults_the_first_along_the_text() {
        texts.vestry(2, "box a |9 0;box a 1 1;");
        texts.vestry(3, "box a 10 1;box |a 9 0;.");
        texts.vestry(1, "box a 10 1|.box a 9 0;");
        texts.vestry(3, FOLK + "kin |z z;");
        texts.book(3, "lend |z z;");
        texts.book(2, "day |0");
        texts.sentence(3, "in |z or in z or or");
    }

    void terms1_faults_of_one_token_the_least() {
        texts.vestry(1, "box |box 10 1;");
        texts.vestry(1, "plot a |1000;");
        texts.vestry(1, FOLK + "kin k |kin;");
        texts.book(1, "lend |lend a;");
        texts.book(1, Check.times(40, "day 1;") + "|12");
        texts.sentence(1, Check.times(20, "laid or ") + "|a");
        texts.sentence(1, "in |in");
    }
}
