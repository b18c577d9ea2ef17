import java.lang.reflect.Method;

/** Promises 1 to 41: each sentence that names an edge has its own test, named by the promise. */
public final class EdgesOfPromisesTest {
    private static final int NONE = LentBoxes.NONE;
    private static final int MIN = Integer.MIN_VALUE;
    private static final int MAX = Integer.MAX_VALUE;
    /** Two boxes, two plots, three dead who wait, and one who comes. */
    private static final String FEW = "box a 50 9;box b 60 9;plot p 3;plot q 0;dead k 50 0;dead l 60 0;dead m 55 0;dead n 50 5;"
            + "kin k l;asks k b;asks l a;air 2;";
    private static final String ALL = Check.many(9, "box b# 50 9;") + Check.many(5, "plot p# 0;")
            + Check.many(12, "dead d# 50 0;");
    private static final int[] WRONG = {-1, -2, -1000, MIN, MAX, 1 << 30, 512};

    private final Check check = new Check();

    public static void main(String[] args) throws ReflectiveOperationException {
        EdgesOfPromisesTest tests = new EdgesOfPromisesTest();
        tests.check.runEach(tests);
        tests.check.finish();
    }

    /** So that no promise is forgotten. */
    void all_promises_have_a_test() {
        for (int n = 1; n <= 41; n++) {
            String prefix = (n < 10 ? "promise0" : "promise") + n + "_";
            boolean found = false;
            for (Method test : getClass().getDeclaredMethods()) {
                found |= test.getName().startsWith(prefix);
            }
            check.due(prefix, found, true);
        }
    }

    private void due(String what, long got, long want) {
        check.due(what, got, want);
    }

    /** The few, of whom k lies in a, l in b. */
    private static LentBoxes few() {
        LentBoxes x = Check.made(FEW);
        x.lend(0, 0);
        x.lend(1, 1);
        return x;
    }

    // 1: a new object

    void promise01_new_object_has_no_boxes_nor_anything_else() {
        LentBoxes x = new LentBoxes();
        for (int what = 0; what <= 6; what++) {
            due("count(" + what + ")", x.count(what), what == 5 ? 1 : 0);
        }
        due("box", x.box(0, 0), NONE);
        due("plot", x.plot(0, 0), NONE);
        check.noSuch("dead", () -> x.dead(0, 0));
        for (int what = 0; what <= 7; what++) {
            due("now(" + what + ")", x.now(what), 0);
        }
    }

    void promise01_new_object_has_an_empty_tape() {
        due("vestry", new LentBoxes().vestry(), 0);
        due("book", new LentBoxes().book(1), NONE);
        due("sentence", new LentBoxes().sentence(), -1);
        due("who", new LentBoxes().who(), NONE);
    }

    void promise01_new_object_ahead_of_any_call() {
        LentBoxes x = new LentBoxes();
        due("fault", x.fault(), 0);
        due("undo", x.undo(), NONE);
        due("match", x.match(), 0);
        due("crowd", x.crowd(99), 0);
        due("need", x.need(99, 60), 0);
        due("longest", x.longest(), NONE);
        due("days", x.days(60), 60);
        due("drawn", x.drawn(60, 1), 60);
        due("undo", x.undo(), 1);
    }

    void promise01_two_objects_share_nothing() {
        LentBoxes x = few();
        LentBoxes y = new LentBoxes();
        due("boxes", y.count(0), 0);
        Check.vestry(y, "dead z 50 0;");
        due("boxes of the other", x.count(0), 2);
        due("acts of the other", x.undo(), 1);
        due("acts", y.undo(), NONE);
    }

    // 2: feed

    void promise02_feed_47_times_and_not_once_more() {
        LentBoxes x = new LentBoxes();
        for (int i = 1; i <= 47; i++) {
            due("feed " + i, x.feed(0, 0, 0, 0, 0), 20 * i);
        }
        due("one more", x.feed(0, 0, 0, 0, 0), NONE);
        due("none came", x.count(6), 940);
    }

    void promise02_feed_up_to_940_from_any_length() {
        LentBoxes x = new LentBoxes();
        for (int i = 1; i <= 47; i++) {
            x.feed(0, 0, 0, 0, 0);
        }
        x.end(921);
        due("from 921", x.feed(0, 0, 0, 0, 0), NONE);
        due("921 yet", x.count(6), 921);
        x.end(920);
        due("from 920", x.feed(0, 0, 0, 0, 0), 940);
        x.end(900);
        x.end(881);
        due("from 881", x.feed(0, 0, 0, 0, 0), 901);
    }

    void promise02_feed_none_come_of_a_refused_one() {
        LentBoxes x = new LentBoxes();
        for (int i = 1; i <= 47; i++) {
            x.feed(0x20202020, 0x20202020, 0x20202020, 0x20202020, 0x20202020);
        }
        x.feed(0, 0, 0, 0, 0);
        x.end(900);
        due("all are blanks", x.vestry(), 0);
    }

    void promise02_feed_the_highest_byte_of_each_number_first() {
        LentBoxes x = Check.made("dead abcdefg 50 0;");
        x.feed(0x00320132, 0, 0, 0, 0);
        x.end(2);
        due("0, 50", x.who(), 1);
        String text = "dead abcdefg 10 9;\n ";
        int[] n = new int[5];
        for (int i = 0; i < 20; i++) {
            n[i / 4] |= text.charAt(i) << 24 - 8 * (i % 4);
        }
        x.feed(n[0], n[1], n[2], n[3], n[4]);
        due("a line", x.vestry(), 1);
        check.due("all letters in order", Check.tagOf(x, 0).equals("abcdefg comes"), true);
    }

    void promise02_feed_bytes_above_127() {
        LentBoxes x = Check.made("box a 50 9;dead k 50 0;");
        x.feed(0x02ff0000, 0, 0, 0, 0);
        x.end(2);
        due("255: in no box", x.who(), 1);
        x.feed(-1, -1, -1, -1, -1);
        due("no token", x.vestry(), -1);
    }

    // 3: end

    void promise03_end_of_its_own_length_and_not_of_more() {
        LentBoxes x = new LentBoxes();
        check.due("end(0)", x.end(0), true);
        check.due("end(1)", x.end(1), false);
        x.feed(1, 2, 3, 4, 5);
        check.due("end(21)", x.end(21), false);
        check.due("end(20)", x.end(20), true);
        due("20 yet", x.count(6), 20);
        check.due("end(19)", x.end(19), true);
        check.due("end(20)", x.end(20), false);
        due("19", x.count(6), 19);
    }

    void promise03_end_below_0() {
        LentBoxes x = new LentBoxes();
        x.feed(1, 2, 3, 4, 5);
        for (int n : new int[] {-1, -20, MIN}) {
            check.due("end(" + n + ")", x.end(n), false);
        }
        check.due("end(MAX)", x.end(MAX), false);
        due("20 yet", x.count(6), 20);
        check.due("end(0)", x.end(0), true);
        due("0", x.count(6), 0);
    }

    void promise03_end_keeps_the_first_bytes() {
        LentBoxes x = new LentBoxes();
        Check.feed(x, "air 1;air 2;");
        x.end(6);
        due("one line", x.vestry(), 1);
        due("the first", x.count(5), 1);
    }

    // 4: vestry

    void promise04_vestry_with_a_fault_leaves_all_but_the_tape() {
        LentBoxes x = few();
        x.days(1);
        Check.sentence(x, "lying");
        due("at the third line", Check.vestry(x, "box z 99 99;plot y 1;air 10;"), -1 - 25);
        due("tape", x.count(6), 0);
        due("boxes", x.count(0), 2);
        due("air", x.count(5), 2);
        due("long", x.box(0, 0), 50);
        due("day", x.now(0), 1);
        due("lying", x.now(3), 3);
        due("sentence", x.said(NONE), 2);
        check.due("names", Check.tagOf(x, 0).equals("k lies in a"), true);
        due("acts", x.undo(), 2);
    }

    void promise04_vestry_fault_at_the_first_byte() {
        LentBoxes x = few();
        due("place 0", Check.vestry(x, "."), -1);
        due("fault", x.fault(), 1);
    }

    void promise04_vestry_of_no_lines_takes_all_away() {
        LentBoxes x = few();
        due("none", x.vestry(), 0);
        for (int what = 0; what < 5; what++) {
            due("count(" + what + ")", x.count(what), 0);
        }
        due("air", x.count(5), 1);
        due("lend", x.lend(0, 0), NONE);
        due("undo", x.undo(), NONE);
    }

    void promise04_vestry_full_of_all_and_again() {
        String full = ALL + Check.many(11, "kin dl d#;") + "kin da db;" + Check.times(4, "frost 9 9;") + "air 9;";
        LentBoxes x = new LentBoxes();
        for (int i = 0; i < 3; i++) {
            due("lines", Check.vestry(x, full), 9 + 5 + 12 + 12 + 4 + 1);
            due("kin", x.count(3), 12);
            due("frost", x.count(4), 4);
            due("a fault behind all of it", Check.vestry(x, full + "air"), -1 - full.length());
        }
        due("one line", Check.vestry(x, "dead k 50 0;"), 1);
        due("no kin", x.dead(0, 6), 0);
        due("no frost", x.count(4), 0);
        due("no kin told", x.count(3), 0);
        x.days(9);
        due("no frost on day 9", x.now(7), 0);
    }

    void promise04_vestry_days_waited_and_lain_begin_anew() {
        LentBoxes x = few();
        x.days(3);
        Check.vestry(x, FEW);
        for (int d = 0; d < 4; d++) {
            due("waited", x.dead(d, 4), 0);
            due("lain", x.dead(d, 5), 0);
        }
        due("longest", x.longest(), NONE);
    }

    void promise04_vestry_leaves_what_other_calls_told_last() {
        LentBoxes x = few();
        x.match();
        x.soon(0);
        x.ring(0);
        x.tag(0);
        Check.who(x, 0, 50);
        Check.book(x, 0, "day 3;");
        Check.vestry(x, "air 1;");
        due("match", x.matchOf(2), NONE);
        due("soonIn", x.soonIn(), 0);
        due("tag", x.byteAt(0), 'k');
        due("ask", x.ask(), 2);
        due("told", x.told(2), 3);
    }

    // 5: fault

    void promise05_fault_0_ahead_of_any_and_without_one() {
        LentBoxes x = new LentBoxes();
        due("ahead", x.fault(), 0);
        x.book(7);
        due("another lives", x.fault(), 0);
        Check.vestry(x, ".");
        due("1", x.fault(), 1);
        x.vestry();
        due("without", x.fault(), 0);
    }

    void promise05_fault_by_the_latest_of_the_three() {
        LentBoxes x = few();
        Check.vestry(x, "air 10;");
        due("vestry", x.fault(), 2);
        Check.book(x, 0, "lend z a;");
        due("book", x.fault(), 3);
        Check.sentence(x, "nothing");
        due("sentence", x.fault(), 1);
        Check.book(x, 1, "");
        due("a book without", x.fault(), 0);
        Check.book(x, 1, "day 0;");
        due("a book", x.fault(), 2);
        Check.sentence(x, "laid");
        due("a sentence without", x.fault(), 0);
    }

    void promise05_fault_a_book_of_another_lives_leaves_it() {
        LentBoxes x = few();
        Check.vestry(x, "air 10;");
        Check.feed(x, "lend z a;");
        for (int lives : new int[] {-1, 2, MIN, MAX}) {
            due("lives " + lives, x.book(lives), -1000);
            due("fault", x.fault(), 2);
        }
    }

    void promise05_fault_no_other_call_changes_it() {
        LentBoxes x = few();
        Check.vestry(x, "air 10;");
        Check.who(x, 9);
        x.lend(7, 7);
        x.image(0);
        x.restore(0);
        x.undo();
        x.drawn(1, 1);
        due("fault", x.fault(), 2);
    }

    // 6: box

    void promise06_box_no_such_ones() {
        LentBoxes x = few();
        for (int wrong : WRONG) {
            due("box " + wrong, x.box(wrong, 0), NONE);
            due("what " + wrong, x.box(0, wrong), NONE);
        }
        due("the first that is none", x.box(2, 0), NONE);
        due("the last", x.box(1, 0), 60);
        due("the first what that is none", x.box(0, 6), NONE);
        due("the last what", x.box(0, 5), 0);
        due("the last of nine", Check.made(ALL).box(8, 0), 50);
        due("a tenth", Check.made(ALL).box(9, 0), NONE);
    }

    void promise06_box_nobody_lies_in_it() {
        LentBoxes x = Check.made(FEW);
        due("at first", x.box(0, 3), NONE);
        x.lend(0, 0);
        due("k", x.box(0, 3), 0);
        x.lay(0, 0);
        due("then", x.box(0, 3), NONE);
    }

    void promise06_box_is_aired_for_0_days_while_one_lies_in_it() {
        due("aired", few().box(0, 5), 0);
        due("free", few().box(0, 4), 0);
    }

    // 7: plot

    void promise07_plot_no_such_ones() {
        LentBoxes x = few();
        for (int wrong : WRONG) {
            due("plot " + wrong, x.plot(wrong, 0), NONE);
            due("what " + wrong, x.plot(0, wrong), NONE);
        }
        due("the first that is none", x.plot(2, 0), NONE);
        due("the last", x.plot(1, 0), 0);
        due("the first what that is none", x.plot(0, 4), NONE);
        due("the last what", x.plot(0, 3), 0);
        due("the last of five", Check.made(ALL).plot(4, 0), 0);
        due("a sixth", Check.made(ALL).plot(5, 0), NONE);
    }

    void promise07_plot_nobody_was_laid_there() {
        LentBoxes x = few();
        due("latest", x.plot(0, 1), NONE);
        due("how many", x.plot(0, 3), 0);
        due("rests", x.plot(0, 2), 0);
        x.lay(0, 0);
        due("the other plot", x.plot(1, 1), NONE);
        due("the other plot", x.plot(1, 3), 0);
    }

    void promise07_plot_of_all_twelve() {
        LentBoxes x = Check.made("box a 50 99;plot p 0;air 0;" + Check.many(12, "dead d# 50 0;"));
        for (int d = 0; d < 12; d++) {
            x.lend(d, 0);
            x.lay(d, 0);
            due("latest", x.plot(0, 1), d);
            due("how many", x.plot(0, 3), d + 1);
        }
    }

    // 8: dead

    void promise08_dead_no_such_ones() {
        LentBoxes x = few();
        for (int wrong : WRONG) {
            check.noSuch("dead " + wrong, () -> x.dead(wrong, 0));
            check.noSuch("what " + wrong, () -> x.dead(0, wrong));
        }
        check.noSuch("the first that is none", () -> x.dead(4, 0));
        due("the last", x.dead(3, 0), 50);
        check.noSuch("the first what that is none", () -> x.dead(0, 8));
        due("the last what", x.dead(0, 7), 1);
        LentBoxes y = Check.made(ALL);
        due("the last of twelve", y.dead(11, 0), 50);
        check.noSuch("a thirteenth", () -> y.dead(12, 0));
    }

    void promise08_dead_none_for_no_box_no_plot_no_asking() {
        LentBoxes x = Check.made(FEW);
        due("waiting: box", x.dead(0, 2), NONE);
        due("waiting: plot", x.dead(0, 3), NONE);
        due("coming: box", x.dead(3, 2), NONE);
        due("coming: plot", x.dead(3, 3), NONE);
        due("asks not", x.dead(2, 7), NONE);
        x.lend(0, 0);
        due("lying: box", x.dead(0, 2), 0);
        due("lying: plot", x.dead(0, 3), NONE);
        x.lay(0, 1);
        due("laid: box", x.dead(0, 2), NONE);
        due("laid: plot", x.dead(0, 3), 1);
        due("asks yet", x.dead(0, 7), 1);
    }

    void promise08_dead_kin_as_bits_of_both() {
        LentBoxes x = Check.made(Check.many(12, "dead d# 50 0;") + "kin da dl;kin dl db;");
        due("of the first", x.dead(0, 6), 1 << 11);
        due("of the last", x.dead(11, 6), 3);
        due("of none", x.dead(2, 6), 0);
    }

    // 9: now

    void promise09_now_another_what() {
        LentBoxes x = few();
        for (int wrong : WRONG) {
            due("what " + wrong, x.now(wrong), NONE);
        }
        due("8", x.now(8), NONE);
        due("7", x.now(7), 0);
        due("0", x.now(0), 0);
    }

    void promise09_now_as_bits_of_all() {
        LentBoxes x = Check.made(ALL);
        due("coming", x.now(1), 0);
        due("waiting", x.now(2), 4095);
        due("boxes", x.now(5), 511);
        due("plots", x.now(6), 31);
        x.lend(11, 8);
        due("waiting", x.now(2), 2047);
        due("lying", x.now(3), 2048);
        due("boxes", x.now(5), 255);
        x.lay(11, 4);
        due("laid", x.now(4), 2048);
        due("plots, as it rests 0", x.now(6), 31);
    }

    // 10 to 13: lend, lay, swap, mend

    void promise10_lend_no_such_ones() {
        LentBoxes x = Check.made(FEW);
        for (int wrong : WRONG) {
            due("dead " + wrong, x.lend(wrong, 0), NONE);
            due("box " + wrong, x.lend(0, wrong), NONE);
        }
        due("the first dead that is none", x.lend(4, 0), NONE);
        due("the first box that is none", x.lend(0, 2), NONE);
        due("nothing to undo", x.undo(), NONE);
        due("the last ones", x.lend(2, 1), 0);
    }

    void promise10_lend_the_last_of_all() {
        LentBoxes x = Check.made(ALL);
        due("lent", x.lend(11, 8), 0);
        due("lies", x.box(8, 3), 11);
        due("a tenth box", x.lend(0, 9), NONE);
        due("a thirteenth", x.lend(12, 0), NONE);
    }

    void promise11_lay_no_such_ones() {
        LentBoxes x = few();
        for (int wrong : WRONG) {
            due("dead " + wrong, x.lay(wrong, 0), NONE);
            due("plot " + wrong, x.lay(0, wrong), NONE);
        }
        due("the first dead that is none", x.lay(4, 0), NONE);
        due("the first plot that is none", x.lay(0, 2), NONE);
        due("nobody was laid", x.now(4), 0);
        due("the last plot", x.lay(0, 1), 0);
    }

    void promise12_swap_alike_or_no_such_ones() {
        LentBoxes x = few();
        due("alike", x.swap(0, 0), NONE);
        due("alike, waiting", x.swap(2, 2), NONE);
        for (int wrong : WRONG) {
            due("first " + wrong, x.swap(wrong, 0), NONE);
            due("second " + wrong, x.swap(0, wrong), NONE);
            due("both " + wrong, x.swap(wrong, wrong), NONE);
        }
        due("the first that is none", x.swap(0, 4), NONE);
        due("the first that is none", x.swap(4, 0), NONE);
        due("acts: two", x.undo(), 1);
    }

    void promise12_swap_both_go_and_the_boxes_know() {
        LentBoxes x = Check.made("box a 50 9;box b 50 9;dead k 50 0;dead l 50 0;");
        x.lend(0, 0);
        x.lend(1, 1);
        due("done", x.swap(1, 0), 0);
        due("k in b", x.dead(0, 2), 1);
        due("l in a", x.dead(1, 2), 0);
        due("in a l", x.box(0, 3), 1);
        due("in b k", x.box(1, 3), 0);
    }

    void promise13_mend_no_such_one() {
        LentBoxes x = Check.made(FEW);
        for (int wrong : WRONG) {
            due("box " + wrong, x.mend(wrong), NONE);
        }
        due("the first that is none", x.mend(2), NONE);
        due("the last", x.mend(1), 1);
    }

    // 14: days

    void promise14_days_1_to_60() {
        LentBoxes x = new LentBoxes();
        for (int wrong : WRONG) {
            due("days(" + wrong + ")", x.days(wrong), NONE);
        }
        due("0", x.days(0), NONE);
        due("61", x.days(61), NONE);
        due("none went", x.now(0), 0);
        due("nothing to undo", x.undo(), NONE);
        due("1", x.days(1), 1);
        due("60", x.days(60), 60);
        due("61 days", x.now(0), 61);
    }

    void promise14_days_as_many_as_are_left() {
        LentBoxes x = new LentBoxes();
        for (int i = 0; i < 6; i++) {
            x.days(60);
        }
        due("40 of 60", x.days(60), 40);
        due("0 of 60", x.days(60), 0);
        due("61 is not as told, then, too", x.days(61), NONE);
        due("the last that was above 0 is undone", x.undo(), 6);
        due("360", x.now(0), 360);
        due("39", x.days(39), 39);
        due("1 of 2", x.days(2), 1);
    }

    // 15: undo

    void promise15_undo_none_is() {
        due("of a new object", new LentBoxes().undo(), NONE);
        LentBoxes x = few();
        due("two", x.undo(), 1);
        due("one", x.undo(), 0);
        due("none", x.undo(), NONE);
        due("none yet", x.undo(), NONE);
        due("all wait", x.now(2), 7);
    }

    void promise15_undo_refused_acts_are_not_kept() {
        LentBoxes x = few();
        x.lend(0, 0);
        x.lay(2, 0);
        x.swap(0, 1);
        x.mend(0);
        x.days(0);
        x.drawn(0, 1);
        x.lend(9, 9);
        Check.book(x, 1, "lay m p;");
        Check.book(x, 1, "day 0;");
        Check.book(x, 1, "");
        Check.book(x, 0, "day 1;");
        Check.feed(x, "day 1;");
        x.book(2);
        x.end(0);
        x.odds(0, 3, 3);
        due("two acts", x.undo(), 1);
    }

    void promise15_undo_keeps_8_at_most() {
        LentBoxes x = new LentBoxes();
        for (int i = 0; i < 8; i++) {
            x.days(1);
        }
        for (int left = 7; left >= 0; left--) {
            due("left", x.undo(), left);
        }
        due("day 0", x.now(0), 0);
        for (int i = 0; i < 21; i++) {
            x.days(1);
        }
        for (int left = 7; left >= 0; left--) {
            due("left of 21", x.undo(), left);
            due("day", x.now(0), 13 + left);
        }
        due("the older ones are gone", x.undo(), NONE);
        due("day 13", x.now(0), 13);
    }

    void promise15_undo_and_act_in_turn_round_the_eight() {
        LentBoxes x = new LentBoxes();
        for (int i = 0; i < 8; i++) {
            x.days(1);
        }
        for (int i = 0; i < 20; i++) {
            x.days(2);
            due("undone", x.undo(), 7);
            due("day", x.now(0), 8 + i);
            x.days(1);
        }
    }

    void promise15_undo_of_each_kind() {
        LentBoxes x = Check.made("box a 50 9;box b 50 9;plot p 3;dead k 50 0;dead l 50 0;air 2;");
        x.lend(0, 0);
        x.lend(1, 1);
        x.swap(0, 1);
        x.lay(0, 0);
        x.mend(1);
        x.days(4);
        x.drawn(3, 7);
        Check.book(x, 1, "day 5;lay k p;");
        due("day 12", x.now(0), 12);
        due("book", x.undo(), 7);
        due("day 7", x.now(0), 7);
        due("drawn", x.undo(), 6);
        due("day 4", x.now(0), 4);
        due("days", x.undo(), 5);
        due("day 0", x.now(0), 0);
        due("not lent", x.box(1, 2), 0);
        due("mend", x.undo(), 4);
        due("lent", x.box(1, 2), 1);
        due("aired", x.box(1, 5), 2);
        due("lay", x.undo(), 3);
        due("lies in b", x.dead(0, 2), 1);
        due("plot", x.plot(0, 3), 0);
        due("plot rests not", x.plot(0, 2), 0);
        due("aired not", x.box(1, 5), 0);
        due("swap", x.undo(), 2);
        due("lies in a", x.dead(0, 2), 0);
        due("lend", x.undo(), 1);
        due("waits", x.dead(1, 1), 1);
        due("had", x.had(1, 0), NONE);
        due("lend", x.undo(), 0);
        due("lent", x.box(0, 2), 0);
    }

    /** odds() goes ahead of the act and behind it, so that nothing of its days is mixed into what is kept. */
    void promise15_undo_brings_back_all_that_was_so() {
        for (int last = 0; last < 8; last++) {
            LentBoxes x = Check.made("box a 50 9;box b 50 9;plot p 3;plot q 0;dead k 50 0;dead l 50 0;dead m 60 1;air 2;");
            for (int act = 0; act < last; act++) {
                doneOne(x, act);
            }
            String seen = allOf(x);
            x.odds(0, 30, 5);
            due("act " + last, doneOne(x, last), 0);
            x.odds(0, 30, 6);
            check.due("it changed something", allOf(x).equals(seen), false);
            due("left", x.undo(), last);
            check.due("as ahead of act " + last, allOf(x).equals(seen), true);
        }
    }

    private static int doneOne(LentBoxes x, int act) {
        switch (act) {
            case 0:
                return x.days(2) - 2;
            case 1:
                return x.lend(0, 0);
            case 2:
                return x.lend(1, 1);
            case 3:
                return x.swap(0, 1);
            case 4:
                return x.lay(0, 0);
            case 5:
                return x.mend(1);
            case 6:
                return x.drawn(9, 4) - 9;
            default:
                return Check.book(x, 1, "day 5;") + 1;
        }
    }

    /** Every number that box(), plot(), dead(), now() and had() tell. */
    private static String allOf(LentBoxes x) {
        StringBuilder all = new StringBuilder();
        for (int what = 0; what < 8; what++) {
            for (int b = 0; b < x.count(0) && what < 6; b++) {
                all.append(x.box(b, what)).append(' ').append(x.had(b, what)).append(' ');
            }
            for (int p = 0; p < x.count(1) && what < 4; p++) {
                all.append(x.plot(p, what)).append(' ');
            }
            for (int d = 0; d < x.count(2); d++) {
                all.append(x.dead(d, what)).append(' ');
            }
            all.append(x.now(what)).append('\n');
        }
        return all.toString();
    }

    void promise15_undo_a_book_of_which_some_line_was_lived() {
        LentBoxes x = few();
        due("the second is wrong", Check.book(x, 1, "day 1;lend k a;"), 1);
        due("undone", x.undo(), 2);
        due("day 0", x.now(0), 0);
        due("the first is wrong", Check.book(x, 1, "lend k a;day 1;"), 0);
        due("nothing of it is undone", x.undo(), 1);
    }

    void promise15_undo_drawn_of_which_some_day_went_by() {
        LentBoxes x = new LentBoxes();
        for (int i = 0; i < 7; i++) {
            x.days(60);
        }
        due("none", x.drawn(5, 5), 0);
        due("the last days", x.undo(), 6);
        due("40", x.drawn(60, 5), 40);
        due("all 40 at once", x.undo(), 6);
        due("360", x.now(0), 360);
    }

    void promise15_undo_leaves_what_calls_told_last() {
        LentBoxes x = few();
        x.match();
        x.tag(0);
        x.soon(0);
        Check.book(x, 1, "day 2;");
        x.undo();
        x.undo();
        due("tag", x.byteAt(10), 'a');
        due("soonIn", x.soonIn(), 0);
        due("told", x.told(2), 2);
    }

    // 16, 17: match, matchOf

    void promise16_match_0_if_none_could_be_lent_one() {
        due("no dead", Check.made("box a 50 9;").match(), 0);
        due("no boxes", Check.made("dead k 50 0;").match(), 0);
        due("too long", Check.made("box a 50 9;dead k 51 0;").match(), 0);
        due("coming", Check.made("box a 50 9;dead k 50 1;").match(), 0);
        LentBoxes x = Check.made("box a 50 9;dead k 50 0;dead l 50 0;");
        x.lend(0, 0);
        due("not free", x.match(), 0);
    }

    void promise16_match_changes_nothing() {
        LentBoxes x = Check.made(FEW);
        due("two", x.match(), 2);
        due("all wait", x.now(2), 7);
        due("nothing to undo", x.undo(), NONE);
    }

    void promise17_match_of_ahead_of_any() {
        due("none", Check.made(FEW).matchOf(0), NONE);
        due("none", new LentBoxes().matchOf(0), NONE);
    }

    void promise17_match_of_none_or_no_such_one_then() {
        LentBoxes x = Check.made("box a 50 9;dead k 50 0;dead l 50 0;dead m 50 1;");
        x.match();
        due("k", x.matchOf(0), 0);
        due("l: none", x.matchOf(1), NONE);
        due("m was not waiting", x.matchOf(2), NONE);
        for (int wrong : WRONG) {
            due("dead " + wrong, x.matchOf(wrong), NONE);
        }
        due("the first that is none", x.matchOf(3), NONE);
        due("a thirteenth", x.matchOf(12), NONE);
    }

    void promise17_match_of_goes_by_the_dead_of_then() {
        LentBoxes x = Check.made("box a 50 9;dead k 50 0;");
        x.match();
        Check.vestry(x, "box a 50 9;box b 50 9;dead k 50 0;dead l 50 0;");
        due("there was no such one then", x.matchOf(1), NONE);
        due("k", x.matchOf(0), 0);
        x.match();
        due("l", x.matchOf(1), 1);
        x.vestry();
        due("l yet", x.matchOf(1), 1);
        x.match();
        due("nobody now", x.matchOf(1), NONE);
        due("nobody now", x.matchOf(0), NONE);
    }

    // 18, 19: soon, soonIn

    void promise18_soon_0_is_now() {
        LentBoxes x = Check.made("box a 50 9;plot p 0;dead k 50 0;frost 1 1;");
        x.lend(0, 0);
        due("now", x.soon(0), 0);
        x.days(1);
        due("tomorrow", x.soon(0), 1);
        x.days(1);
        due("now", x.soon(0), 0);
    }

    void promise18_soon_he_is_not_lying() {
        LentBoxes x = few();
        due("waiting", x.soon(2), NONE);
        due("coming", x.soon(3), NONE);
        x.lay(0, 0);
        due("laid", x.soon(0), NONE);
    }

    void promise18_soon_no_such_one() {
        LentBoxes x = few();
        for (int wrong : WRONG) {
            due("dead " + wrong, x.soon(wrong), NONE);
        }
        due("the first that is none", x.soon(4), NONE);
    }

    void promise18_soon_not_in_300() {
        LentBoxes x = Check.made("box a 50 9;dead k 50 0;");
        x.lend(0, 0);
        due("no plot", x.soon(0), NONE);
        LentBoxes y = Check.made("box a 50 9;box b 50 9;plot p 0;dead k 50 0;dead l 50 0;kin k l;");
        y.lend(0, 0);
        y.lend(1, 1);
        y.lay(1, 0);
        due("kin for ever", y.soon(0), NONE);
    }

    void promise19_soon_in_ahead_of_any() {
        due("none", few().soonIn(), NONE);
        due("none", new LentBoxes().soonIn(), NONE);
    }

    void promise19_soon_in_by_the_latest_that_was_not_none() {
        LentBoxes x = few();
        x.lay(0, 0);
        due("now", x.soon(1), 0);
        due("q", x.soonIn(), 1);
        x.soon(0);
        x.soon(2);
        x.soon(9);
        due("q yet", x.soonIn(), 1);
        x.lay(1, 1);
        x.undo();
        x.undo();
        due("q yet", x.soonIn(), 1);
        due("now", x.soon(0), 0);
        due("p", x.soonIn(), 0);
    }

    // 20, 21: crowd, need

    void promise20_crowd_0_to_99() {
        LentBoxes x = Check.made(FEW);
        for (int wrong : WRONG) {
            due("crowd(" + wrong + ")", x.crowd(wrong), NONE);
        }
        due("0", x.crowd(0), 3);
        due("4", x.crowd(4), 3);
        due("5", x.crowd(5), 4);
        due("99", x.crowd(99), 4);
        due("100", x.crowd(100), NONE);
    }

    void promise21_need_0_to_99_and_1_to_60() {
        LentBoxes x = Check.made(FEW);
        for (int wrong : WRONG) {
            due("n " + wrong, x.need(wrong, 1), NONE);
            due("m " + wrong, x.need(0, wrong), NONE);
        }
        due("n 0, m 1", x.need(0, 1), 3);
        due("n 99, m 60", x.need(99, 60), 4);
        due("n 99, m 1", x.need(99, 1), 3);
        due("n 0, m 60", x.need(0, 60), 3);
        due("n 100", x.need(100, 60), NONE);
        due("m 61", x.need(99, 61), NONE);
        due("m 0", x.need(99, 0), NONE);
    }

    // 22, 23: ring, ringAt

    void promise22_ring_1_he_lies_in_it() {
        LentBoxes x = Check.made("box a 50 9;box b 50 9;dead k 50 0;asks k b;");
        x.lend(0, 1);
        due("1", x.ring(0), 1);
    }

    void promise22_ring_2_who_ask_for_each_others() {
        LentBoxes x = Check.made("box a 60 9;box b 60 9;dead k 50 0;dead l 60 0;asks k b;asks l a;");
        x.lend(0, 0);
        x.lend(1, 1);
        due("2", x.ring(0), 2);
        due("l", x.ringAt(1), 1);
    }

    void promise22_ring_does_not_come_back() {
        LentBoxes x = Check.made("box a 50 9;box b 50 9;box c 50 9;dead k 50 0;dead l 50 0;dead m 50 0;asks k b;asks l c;asks m b;");
        x.lend(0, 0);
        due("nobody lies in b", x.ring(0), NONE);
        x.lend(1, 1);
        due("nobody lies in c", x.ring(0), NONE);
        x.lend(2, 2);
        due("l and m go round without k", x.ring(0), NONE);
        due("they do", x.ring(1), 2);
    }

    void promise22_ring_one_does_not_ask() {
        LentBoxes x = Check.made("box a 50 9;box b 50 9;dead k 50 0;dead l 50 0;asks k b;");
        x.lend(0, 0);
        x.lend(1, 1);
        due("l asks not", x.ring(0), NONE);
        due("nor does the first", x.ring(1), NONE);
    }

    void promise22_ring_one_is_too_long() {
        LentBoxes x = Check.made("box a 50 9;box b 60 9;dead k 50 0;dead l 51 0;asks k b;asks l a;");
        x.lend(0, 0);
        x.lend(1, 1);
        due("the other", x.ring(0), NONE);
        due("the first", x.ring(1), NONE);
        LentBoxes y = Check.made("box a 50 9;box b 60 9;dead k 50 0;dead l 50 0;asks k b;asks l a;");
        y.lend(0, 0);
        y.lend(1, 1);
        due("as long as it", y.ring(0), 2);
    }

    void promise22_ring_he_is_not_lying_or_no_such_one() {
        LentBoxes x = Check.made("box a 50 9;plot p 0;dead k 50 0;dead l 50 9;asks k a;asks l a;");
        due("waiting", x.ring(0), NONE);
        due("coming", x.ring(1), NONE);
        x.lend(0, 0);
        due("lying", x.ring(0), 1);
        x.lay(0, 0);
        due("laid", x.ring(0), NONE);
        for (int wrong : WRONG) {
            due("dead " + wrong, x.ring(wrong), NONE);
        }
        due("the first that is none", x.ring(2), NONE);
    }

    void promise22_ring_changes_nothing() {
        LentBoxes x = Check.made("box a 50 9;box b 50 9;dead k 50 0;dead l 50 0;asks k b;asks l a;");
        x.lend(0, 0);
        x.lend(1, 1);
        x.ring(0);
        due("k lies in a", x.dead(0, 2), 0);
        due("acts", x.undo(), 1);
    }

    void promise23_ring_at_ahead_of_any() {
        due("none", few().ringAt(0), NONE);
        LentBoxes x = Check.made(FEW);
        x.ring(0);
        due("none behind NONE", x.ringAt(0), NONE);
    }

    void promise23_ring_at_none_such() {
        LentBoxes x = Check.made("box a 50 9;box b 50 9;dead k 50 0;dead l 50 0;asks k b;asks l a;");
        x.lend(0, 0);
        x.lend(1, 1);
        x.ring(1);
        due("the first: that one", x.ringAt(0), 1);
        due("the second", x.ringAt(1), 0);
        due("none such", x.ringAt(2), NONE);
        for (int wrong : WRONG) {
            due("k " + wrong, x.ringAt(wrong), NONE);
        }
    }

    void promise23_ring_at_by_the_latest_that_was_not_none() {
        LentBoxes x = Check.made("box a 50 9;box b 50 9;box c 50 9;dead k 50 0;dead l 50 0;dead m 50 0;asks k b;asks l a;asks m a;");
        for (int d = 0; d < 3; d++) {
            x.lend(d, d);
        }
        due("two", x.ring(1), 2);
        due("m: not round", x.ring(2), NONE);
        due("no such one", x.ring(7), NONE);
        due("l", x.ringAt(0), 1);
        due("k", x.ringAt(1), 0);
        x.swap(0, 1);
        due("one: k lies in b", x.ring(0), 1);
        due("k", x.ringAt(0), 0);
        due("the longer one is gone", x.ringAt(1), NONE);
    }

    // 24, 25: who, ask

    void promise24_who_not_as_told() {
        LentBoxes x = Check.made(FEW);
        due("an empty tape", x.who(), NONE);
        due("one byte", Check.who(x, 0), NONE);
        due("what 4", Check.who(x, 4, 50), NONE);
        due("what 255", Check.who(x, 255, 50), NONE);
        due("what 4 behind one that finds nobody", Check.who(x, 0, 1, 4, 50), NONE);
        due("fourteen bytes", Check.who(x, 0, 50, 0, 50, 0, 50, 0, 50, 0, 50, 0, 50, 0, 50), NONE);
        x.feed(0x00320032, 0x00320032, 0x00320032, 0x00320032, 0x00320032);
        due("twenty bytes", x.who(), NONE);
    }

    void promise24_who_empties_the_tape() {
        LentBoxes x = Check.made(FEW);
        due("k, n", Check.who(x, 0, 50), 9);
        due("empty", x.count(6), 0);
        Check.who(x, 9, 50);
        due("empty, if not as told", x.count(6), 0);
    }

    void promise24_who_nobody() {
        LentBoxes x = Check.made(FEW);
        due("long 51", Check.who(x, 0, 51), 0);
        due("long 50 and 60", Check.who(x, 0, 50, 0, 60), 0);
        due("no such box", Check.who(x, 2, 2), 0);
        due("no such plot", Check.who(x, 3, 254), 0);
        due("no dead", Check.who(new LentBoxes(), 2, 255), 0);
    }

    void promise24_who_all_twelve() {
        due("all", Check.who(Check.made(ALL), 0, 50, 1, 0, 2, 255, 3, 255), 4095);
    }

    void promise25_ask_ahead_of_any() {
        LentBoxes x = Check.made(FEW);
        due("none", x.ask(), NONE);
        Check.who(x, 0, 51);
        due("none behind nobody", x.ask(), NONE);
        Check.who(x, 7, 7);
        due("none behind not as told", x.ask(), NONE);
    }

    void promise25_ask_by_the_latest_above_0() {
        LentBoxes x = Check.made("box a 50 9;dead k 50 0;dead l 50 0;dead m 60 0;dead n 70 0;");
        x.lend(0, 0);
        Check.who(x, 0, 50);
        due("box", x.ask(), 2);
        Check.who(x, 0, 51);
        Check.who(x, 9, 9);
        due("box yet", x.ask(), 2);
        Check.who(x, 2, 255);
        due("long", x.ask(), 0);
    }

    void promise25_ask_of_all_twelve_alike() {
        LentBoxes x = Check.made(ALL);
        due("all", Check.who(x, 0, 50), 4095);
        due("the first", x.ask(), 0);
    }

    void promise25_ask_any_of_the_four() {
        LentBoxes x = Check.made("box a 90 9;box b 90 9;plot p 0;plot q 0;dead k 50 0;dead l 50 0;dead m 60 0;");
        due("all", Check.who(x, 1, 0), 7);
        due("long", x.ask(), 0);
        x.lend(0, 0);
        x.days(1);
        due("k, l", Check.who(x, 0, 50), 3);
        due("waited, as the box is not ahead of it", x.ask(), 1);
        x.undo();
        due("k, l", Check.who(x, 0, 50), 3);
        due("the box", x.ask(), 2);
        x.lay(0, 1);
        due("k, l", Check.who(x, 0, 50), 3);
        due("the plot", x.ask(), 3);
    }

    void promise25_ask_by_the_greatest_number_whoever_is_in_it() {
        LentBoxes x = Check.made("box a 90 9;dead k 50 0;dead l 50 0;dead m 50 0;dead n 60 0;dead o 70 0;dead p 80 0;");
        for (int who = 0; who < 2; who++) {
            due("all", Check.who(x, 1, 0), 63);
            due("long: 3 of 6", x.ask(), 0);
        }
        LentBoxes y = Check.made("box a 90 9;box b 90 9;dead k 50 0;dead l 50 0;dead m 60 0;");
        y.lend(1, 0);
        y.lend(2, 1);
        due("all", Check.who(y, 1, 0), 7);
        due("long: k and l alike; the box: none alike", y.ask(), 2);
    }

    // 26, 27: near, had

    void promise26_near_no_such_ones() {
        LentBoxes x = Check.made(FEW);
        for (int wrong : WRONG) {
            due("first " + wrong, x.near(wrong, 0), NONE);
            due("second " + wrong, x.near(0, wrong), NONE);
            due("both " + wrong, x.near(wrong, wrong), NONE);
        }
        due("the first that is none", x.near(4, 4), NONE);
        due("the last", x.near(3, 3), 0);
        due("none at all", new LentBoxes().near(0, 0), NONE);
    }

    void promise26_near_one_does_not_come_there() {
        LentBoxes x = Check.made("dead k 50 0;dead l 50 0;dead m 50 0;dead n 50 0;kin k l;kin m n;");
        due("there", x.near(0, 1), 1);
        due("not there", x.near(0, 2), NONE);
        due("nor there", x.near(3, 1), NONE);
    }

    void promise27_had_0_to_3() {
        LentBoxes x = Check.made("box a 50 9;box b 50 9;plot p 0;air 0;" + Check.many(12, "dead d# 50 0;"));
        for (int d = 0; d < 12; d++) {
            x.lend(d, d % 2);
            x.lay(d, 0);
        }
        for (int k = 0; k < 4; k++) {
            due("a " + k, x.had(0, k), 10 - 2 * k);
            due("b " + k, x.had(1, k), 11 - 2 * k);
        }
        for (int wrong : WRONG) {
            due("k " + wrong, x.had(0, wrong), NONE);
            due("box " + wrong, x.had(wrong, 0), NONE);
        }
        due("k 4", x.had(0, 4), NONE);
        due("the first box that is none", x.had(2, 0), NONE);
    }

    void promise27_had_none_such() {
        LentBoxes x = few();
        due("k", x.had(0, 0), 0);
        due("no second", x.had(0, 1), NONE);
        due("no third", x.had(0, 2), NONE);
        due("no fourth", x.had(0, 3), NONE);
        due("no box", new LentBoxes().had(0, 0), NONE);
    }

    // 28 to 30: wear, mean, longest

    void promise28_wear_no_such_ones() {
        LentBoxes x = few();
        for (int wrong : WRONG) {
            check.noSuch("box " + wrong, () -> x.wear(wrong, 0));
            check.noSuch("what " + wrong, () -> x.wear(0, wrong));
        }
        check.noSuch("the first box that is none", () -> x.wear(2, 0));
        check.noSuch("what 2", () -> x.wear(0, 2));
        due("the last", x.wear(1, 1), 9);
        check.noSuch("no box", () -> new LentBoxes().wear(0, 0));
    }

    void promise28_wear_never_lent_worn_and_mended() {
        LentBoxes x = Check.made("box a 50 2;plot p 0;air 0;dead k 50 0;dead l 50 0;");
        due("0 by 1", 10 * x.wear(0, 0) + x.wear(0, 1), 1);
        x.lend(0, 0);
        due("1 by 2", 10 * x.wear(0, 0) + x.wear(0, 1), 12);
        x.lay(0, 0);
        x.lend(1, 0);
        due("1 by 1", 10 * x.wear(0, 0) + x.wear(0, 1), 11);
        x.lay(1, 0);
        x.mend(0);
        due("0 by 1 again", 10 * x.wear(0, 0) + x.wear(0, 1), 1);
    }

    void promise29_mean_no_dead_or_no_such_ones() {
        check.noSuch("no dead: 0", () -> new LentBoxes().mean(0));
        check.noSuch("no dead: 1", () -> Check.made("box a 50 9;").mean(1));
        LentBoxes x = few();
        for (int wrong : WRONG) {
            check.noSuch("what " + wrong, () -> x.mean(wrong));
        }
        check.noSuch("what 2", () -> x.mean(2));
        due("nobody waited: above", x.mean(0), 0);
        due("nobody waited: below", x.mean(1), 1);
    }

    void promise29_mean_of_all_dead_the_coming_and_laid_too() {
        LentBoxes x = few();
        x.days(1);
        due("1 by 4: above", x.mean(0), 1);
        due("1 by 4: below", x.mean(1), 4);
        due("of one", Check.made("dead k 50 0;").mean(1), 1);
    }

    void promise30_longest_nobody_waited() {
        due("no dead", new LentBoxes().longest(), NONE);
        due("day 0", Check.made(FEW).longest(), NONE);
        LentBoxes x = Check.made("dead k 50 1;");
        x.days(1);
        due("he came only now", x.longest(), NONE);
        x.days(1);
        due("he waited", x.longest(), 0);
    }

    void promise30_longest_he_may_lie_or_be_laid() {
        LentBoxes x = Check.made("box a 50 9;plot p 0;dead k 60 1;dead l 50 0;");
        x.days(2);
        x.lend(1, 0);
        due("l lies", x.longest(), 1);
        x.lay(1, 0);
        due("l is laid", x.longest(), 1);
        x.days(1);
        due("k as long: the first", x.longest(), 0);
    }

    void promise30_longest_of_all_twelve() {
        LentBoxes x = Check.made(Check.many(9, "box b# 50 9;") + Check.many(12, "dead d# 50 0;"));
        due("nobody", x.longest(), NONE);
        for (int d = 0; d < 9; d++) {
            x.lend(d, d);
        }
        x.days(1);
        due("the first of the last", x.longest(), 9);
    }

    // 31, 32: tag, byteAt

    void promise31_tag_no_such_one() {
        LentBoxes x = few();
        due("k lies in a", x.tag(0), 11);
        for (int wrong : WRONG) {
            due("dead " + wrong, x.tag(wrong), NONE);
        }
        due("the first that is none", x.tag(4), NONE);
        due("the tag stays", x.byteAt(0), 'k');
        due("all of it", x.byteAt(10), 'a');
    }

    void promise32_byte_at_none_such() {
        LentBoxes x = few();
        due("ahead of any", x.byteAt(0), NONE);
        due("length", x.tag(2), 7);
        due("the last", x.byteAt(6), 's');
        due("behind it", x.byteAt(7), NONE);
        for (int wrong : WRONG) {
            due("byte " + wrong, x.byteAt(wrong), NONE);
        }
    }

    void promise32_byte_at_of_the_latest_tag_as_it_was() {
        LentBoxes x = few();
        x.tag(0);
        x.lay(0, 0);
        due("lies yet", x.byteAt(2), 'l');
        due("in a", x.byteAt(10), 'a');
        x.tag(0);
        due("laid in p", x.byteAt(10), 'p');
        x.tag(2);
        due("a shorter one", x.byteAt(10), NONE);
    }

    // 33, 34: drawn, odds

    void promise33_drawn_1_to_60() {
        LentBoxes x = few();
        for (int wrong : WRONG) {
            due("n " + wrong, x.drawn(wrong, 1), NONE);
        }
        due("n 0", x.drawn(0, 1), NONE);
        due("n 61", x.drawn(61, 1), NONE);
        due("none went", x.now(0), 0);
        due("n 1", x.drawn(1, 1), 1);
        due("n 60", x.drawn(60, 1), 60);
        due("61", x.now(0), 61);
    }

    void promise33_drawn_as_many_days_as_are_left() {
        LentBoxes x = Check.made("box a 50 9;dead k 50 0;");
        for (int i = 0; i < 6; i++) {
            x.days(60);
        }
        x.days(39);
        due("1 of 60", x.drawn(60, 7), 1);
        due("0 of 60", x.drawn(60, 7), 0);
        due("day 400", x.now(0), 400);
    }

    void promise33_drawn_nothing_is_done_when_all_days_are_over() {
        for (int seed = 0; seed < 40; seed++) {
            LentBoxes x = Check.made("box a 50 9;dead k 50 0;");
            for (int i = 0; i < 7; i++) {
                x.days(60);
            }
            due("none goes", x.drawn(60, seed), 0);
            due("he waits", x.dead(0, 1), 1);
        }
    }

    void promise33_drawn_day_by_day_is_not_as_at_once() {
        // x goes on from day to day within one call, and begins with the seed in the next.
        LentBoxes x = Check.made(ALL);
        LentBoxes y = Check.made(ALL);
        x.drawn(60, 3);
        for (int i = 0; i < 60; i++) {
            y.drawn(1, 3);
        }
        check.due("not alike", x.now(3) + x.now(4) != y.now(3) + y.now(4), true);
    }

    void promise34_odds_1_to_30_and_no_such_ones() {
        LentBoxes x = few();
        for (int wrong : WRONG) {
            due("dead " + wrong, x.odds(wrong, 1, 1), NONE);
            due("n " + wrong, x.odds(0, wrong, 1), NONE);
        }
        due("the first that is none", x.odds(4, 1, 1), NONE);
        due("n 0", x.odds(0, 0, 1), NONE);
        due("n 31", x.odds(0, 31, 1), NONE);
        x.lay(0, 0);
        due("n 1: laid already", x.odds(0, 1, 1), 1);
        due("n 30", x.odds(0, 30, 1), 30);
    }

    void promise34_odds_seeds_wrap_behind_the_greatest() {
        LentBoxes x = few();
        int want = 0;
        for (int i = 0; i < 30; i++) {
            LentBoxes y = few();
            y.drawn(20, MAX - 14 + i);
            want += y.dead(0, 1) == 3 ? 1 : 0;
        }
        due("from MAX - 14", x.odds(0, 30, MAX - 14), want);
        check.due("some, not all", want > 0 && want < 30, true);
    }

    void promise34_odds_behind_20_days_or_as_many_as_are_left() {
        for (int left = 0; left <= 21; left++) {
            LentBoxes x = few();
            for (int i = 0; i < 6; i++) {
                x.days(60);
            }
            x.days(40 - left);
            int want = 0;
            for (int seed = 0; seed < 30; seed++) {
                x.image(0);
                x.drawn(20, seed);
                want += x.dead(0, 1) == 3 ? 1 : 0;
                x.restore(0);
            }
            due("left " + left, x.odds(0, 30, 0), want);
        }
    }

    void promise34_odds_of_20_days_and_no_day_fewer_or_more() {
        int[] by = new int[3];
        for (int from = 0; from < 900; from += 30) {
            LentBoxes x = few();
            int want = 0;
            for (int seed = from; seed < from + 30; seed++) {
                for (int n = 19; n <= 21; n++) {
                    x.image(0);
                    x.drawn(n, seed);
                    by[n - 19] += x.dead(0, 1) == 3 ? 1 : 0;
                    want += n == 20 && x.dead(0, 1) == 3 ? 1 : 0;
                    x.restore(0);
                }
            }
            due("from " + from, x.odds(0, 30, from), want);
        }
        check.due("19 would be told from 20, 20 from 21", by[0] < by[1] && by[1] < by[2], true);
    }

    void promise34_odds_change_nothing() {
        LentBoxes x = few();
        x.odds(0, 30, 9);
        due("day", x.now(0), 0);
        due("lying", x.now(3), 3);
        due("acts", x.undo(), 1);
    }

    // 35, 36: book, told

    void promise35_book_another_lives_leaves_the_tape() {
        LentBoxes x = few();
        Check.feed(x, "day 1;");
        for (int lives : new int[] {-1, 2, MIN, MAX}) {
            due("lives " + lives, x.book(lives), -1000);
            due("tape", x.count(6), 6);
            due("told", x.told(1), NONE);
        }
        due("lives 1", x.book(1), NONE);
        due("tape", x.count(6), 0);
        due("day", x.now(0), 1);
    }

    void promise35_book_lives_0_leaves_all() {
        LentBoxes x = few();
        due("judged", Check.book(x, 0, "lay k p;day 9;lend n a;"), NONE);
        due("day", x.now(0), 0);
        due("lying", x.now(3), 3);
        due("acts", x.undo(), 1);
        due("tape", x.count(6), 0);
    }

    void promise35_book_lives_1_as_far_as_it_is_not_wrong() {
        LentBoxes x = few();
        due("the third", Check.book(x, 1, "day 1;day 1;lend k a;day 1;"), 2);
        due("two days", x.now(0), 2);
        due("the first", Check.book(x, 1, "lend k a;day 1;"), 0);
        due("two days yet", x.now(0), 2);
        due("none", Check.book(x, 1, "day 1;"), NONE);
        due("three days", x.now(0), 3);
    }

    void promise35_book_fault_goes_ahead_of_wrong_and_nothing_is_lived() {
        LentBoxes x = few();
        due("at the last line", Check.book(x, 1, "day 1;lend k a;day 0;"), -2 - 19);
        due("day", x.now(0), 0);
        due("at the first byte", Check.book(x, 1, "."), -2);
    }

    void promise35_book_the_last_of_40_lines_is_wrong() {
        LentBoxes x = few();
        due("line 39", Check.book(x, 1, Check.times(39, "day 1;") + "mend a;"), 39);
        due("day", x.now(0), 39);
        due("lines", x.told(1), 39);
    }

    void promise35_book_days_that_are_left_and_one_more() {
        LentBoxes x = new LentBoxes();
        due("60 times 6 and 40", Check.book(x, 1, Check.times(6, "day 60;") + "day 41;day 1;"), 6);
        due("41", x.told(0), 41);
        due("none of these went", x.now(0), 360);
        due("40", Check.book(x, 1, "day 40;"), NONE);
        due("day", x.told(2), 400);
        due("one more", Check.book(x, 1, "day 1;"), 0);
        due("41", x.told(0), 41);
    }

    void promise36_told_ahead_of_any() {
        LentBoxes x = few();
        for (int what = -1; what <= 4; what++) {
            due("told(" + what + ")", x.told(what), NONE);
        }
        Check.book(x, 1, "day 0;");
        due("behind a fault", x.told(0), NONE);
        x.book(5);
        due("behind another lives", x.told(0), NONE);
    }

    void promise36_told_another_what() {
        LentBoxes x = few();
        Check.book(x, 0, "day 1;");
        for (int wrong : WRONG) {
            due("what " + wrong, x.told(wrong), NONE);
        }
        due("what 4", x.told(4), NONE);
        due("what 3", x.told(3), 0);
    }

    void promise36_told_of_an_empty_book() {
        LentBoxes x = few();
        x.lay(0, 0);
        x.days(2);
        due("none", Check.book(x, 0, ""), NONE);
        due("why", x.told(0), 0);
        due("lines", x.told(1), 0);
        due("day", x.told(2), 2);
        due("laid", x.told(3), 1);
    }

    void promise36_told_stays_behind_a_fault_and_another_lives() {
        LentBoxes x = few();
        Check.book(x, 0, "day 1;lay k p;mend b;");
        for (int i = 0; i < 2; i++) {
            due("why", x.told(0), 32);
            due("lines", x.told(1), 2);
            due("day", x.told(2), 1);
            due("laid", x.told(3), 1);
            Check.book(x, 1, "day 9;day 0;");
            x.book(-1);
        }
    }

    void promise36_told_why_in_all_ways() {
        String folk = "box a 50 1;box b 60 9;plot p 1;plot q 0;dead k 50 0;dead l 60 0;dead m 50 0;dead n 50 9;kin k l;"
                + "air 0;frost 3 1;";
        String[] books = {"lend n a;", "lend k a;lend m a;", "lend l a;", "lend k a;lay k p;lend m a;",
            "lay k p;", "lend k a;day 3;lay k p;", "lend k a;lend l b;lay k p;lay l p;", "lend k a;lend l b;lay k q;lay l q;",
            "swap k l;", "lend k a;lend l b;swap k l;", "mend a;", "lend k a;mend a;", Check.times(6, "day 60;") + "day 41;"};
        int[] whys = {1, 2, 3, 4, 11, 12, 13, 14, 21, 22, 31, 32, 41};
        for (int i = 0; i < books.length; i++) {
            LentBoxes x = Check.made(folk);
            int wrong = books[i].length() - books[i].replace(";", "").length() - 1;
            due(books[i], Check.book(x, 0, books[i]), wrong);
            due("why: " + books[i], x.told(0), whys[i]);
            due("lines: " + books[i], x.told(1), wrong);
        }
    }

    // 37, 38: sentence, said

    void promise37_sentence_with_a_fault_stays() {
        LentBoxes x = few();
        due("one", Check.sentence(x, "lying"), 1);
        due("a fault", Check.sentence(x, "waiting or"), -1 - 10);
        due("tape", x.count(6), 0);
        due("lying yet", x.said(NONE), 2);
        due("k", x.said(0), 0);
        due("a fault at the first byte", Check.sentence(x, "."), -1);
        due("of an empty tape", x.sentence(), -1);
        due("lying yet", x.said(1), 1);
    }

    void promise37_sentence_counts_each_not_bracket_and_other_one() {
        LentBoxes x = few();
        due("1", Check.sentence(x, "lying"), 1);
        due("not", Check.sentence(x, "not lying"), 2);
        due("bracket", Check.sentence(x, "(lying)"), 2);
        due("both", Check.sentence(x, "not (not lying)"), 4);
        due("or, and are none", Check.sentence(x, "lying or laid and coming"), 3);
    }

    void promise38_said_there_is_no_sentence() {
        LentBoxes x = few();
        for (int k = -2; k <= 12; k++) {
            due("said(" + k + ")", x.said(k), NONE);
        }
        Check.sentence(x, "or");
        due("behind a fault", x.said(NONE), NONE);
        Check.sentence(x, "lying");
        Check.vestry(x, FEW);
        due("behind a new vestry", x.said(NONE), NONE);
    }

    void promise38_said_how_many_or_the_kth() {
        LentBoxes x = Check.made(ALL);
        Check.sentence(x, "number > 9 or number = 0");
        due("how many", x.said(NONE), 3);
        due("0", x.said(0), 0);
        due("1", x.said(1), 10);
        due("2", x.said(2), 11);
        due("none such", x.said(3), NONE);
        due("-2", x.said(-2), NONE);
        due("MIN", x.said(MIN), NONE);
        due("MAX", x.said(MAX), NONE);
    }

    void promise38_said_of_nobody_and_of_all() {
        LentBoxes x = Check.made(ALL);
        Check.sentence(x, "laid");
        due("of nobody", x.said(NONE), 0);
        due("none such", x.said(0), NONE);
        Check.sentence(x, "not laid");
        due("of all", x.said(NONE), 12);
        due("the last", x.said(11), 11);
        due("none such", x.said(12), NONE);
        LentBoxes y = new LentBoxes();
        Check.sentence(y, "not laid");
        due("there are none", y.said(NONE), 0);
    }

    void promise38_said_of_20_ones() {
        LentBoxes x = few();
        due("or", Check.sentence(x, Check.times(19, "laid or ") + "lying"), 20);
        due("k, l", x.said(NONE), 2);
        due("the first", Check.sentence(x, "lying" + Check.times(19, " or laid")), 20);
        due("k, l", x.said(NONE), 2);
        due("and", Check.sentence(x, Check.times(19, "lying and ") + "in a"), 20);
        due("k", x.said(NONE), 1);
        due("within", Check.sentence(x, Check.times(7, "not ") + "lying or " + Check.times(6, "(") + "in b and lying"
                + Check.times(3, ")") + " or laid" + Check.times(3, ")") + " and not laid"), 8 + 9 + 2);
        due("all but k", x.said(NONE), 3);
    }

    void promise38_said_as_all_is_now() {
        LentBoxes x = Check.made(FEW);
        Check.sentence(x, "lying");
        due("nobody", x.said(NONE), 0);
        x.lend(0, 0);
        due("k", x.said(NONE), 1);
        x.lay(0, 0);
        due("nobody", x.said(NONE), 0);
        x.undo();
        due("k", x.said(NONE), 1);
    }

    void promise38_said_each_sign_at_below_and_above() {
        LentBoxes x = Check.made("dead k 49 0;dead l 50 0;dead m 51 0;");
        String[] signs = {"<", "=", ">"};
        for (int i = 0; i < 3; i++) {
            Check.sentence(x, "long " + signs[i] + " 50");
            due(signs[i], x.said(NONE), 1);
            due(signs[i], x.said(0), i);
            Check.sentence(x, "number " + signs[i] + " 1");
            due("number", x.said(0), i);
        }
    }

    void promise38_said_and_binds_ahead_of_or() {
        LentBoxes x = Check.made("dead k 50 0;dead l 60 0;dead m 60 9;");
        Check.sentence(x, "long = 50 or waiting and coming");
        due("k", x.said(NONE), 1);
        Check.sentence(x, "(long = 50 or waiting) and coming");
        due("nobody", x.said(NONE), 0);
        Check.sentence(x, "not waiting and long = 60");
        due("not binds ahead of and", x.said(0), 2);
        Check.sentence(x, "not (waiting and long = 60)");
        due("k, m", x.said(NONE), 2);
    }

    void promise38_said_of_days_waited_and_lain_in_all() {
        LentBoxes x = few();
        x.days(2);
        x.lay(0, 0);
        x.days(3);
        Check.sentence(x, "lain = 2");
        due("k, laid", x.said(0), 0);
        Check.sentence(x, "lain = 5");
        due("l, lying", x.said(0), 1);
        Check.sentence(x, "waited = 5");
        due("m", x.said(0), 2);
        Check.sentence(x, "waited = 0 and waiting");
        due("n, who came now", x.said(0), 3);
    }

    void promise38_said_in_the_box_in_which_he_lies_now() {
        LentBoxes x = few();
        Check.sentence(x, "in a");
        due("k", x.said(0), 0);
        x.lay(0, 0);
        due("nobody", x.said(NONE), 0);
    }

    void promise38_said_kin_of_one_is_not_he() {
        LentBoxes x = few();
        Check.sentence(x, "kin k");
        due("one", x.said(NONE), 1);
        due("l", x.said(0), 1);
        Check.sentence(x, "kin m");
        due("nobody", x.said(NONE), 0);
    }

    // 39, 40: image, restore

    void promise39_image_no_such_one() {
        LentBoxes x = few();
        for (int wrong : WRONG) {
            check.due("image " + wrong, x.image(wrong), false);
        }
        check.due("image 2", x.image(2), false);
        check.due("nothing is kept in 0", x.restore(0), false);
        check.due("nothing is kept in 1", x.restore(1), false);
        check.due("image 0", x.image(0), true);
        check.due("image 1", x.image(1), true);
    }

    void promise39_image_of_a_new_object() {
        LentBoxes x = new LentBoxes();
        x.image(0);
        Check.vestry(x, FEW);
        check.due("restored", x.restore(0), true);
        due("no boxes", x.count(0), 0);
        due("no dead", x.count(2), 0);
    }

    void promise39_image_leaves_acts_to_be_undone() {
        LentBoxes x = few();
        x.image(0);
        due("undone", x.undo(), 1);
        x.image(0);
        due("undone", x.undo(), 0);
    }

    void promise39_image_keeps_what_is_so_then() {
        LentBoxes x = few();
        Check.sentence(x, "lying");
        x.image(0);
        x.lay(0, 0);
        x.days(9);
        Check.sentence(x, "laid or laid");
        x.restore(0);
        due("day", x.now(0), 0);
        due("lying", x.now(3), 3);
        due("sentence", x.said(NONE), 2);
        due("plots", x.now(6), 3);
        due("had", x.had(0, 0), 0);
    }

    void promise39_image_kept_again_in_its_place() {
        LentBoxes x = few();
        x.image(0);
        x.days(1);
        x.image(1);
        x.days(1);
        x.image(0);
        x.days(1);
        x.restore(1);
        due("1", x.now(0), 1);
        x.restore(0);
        due("2", x.now(0), 2);
    }

    void promise39_image_of_no_sentence() {
        LentBoxes x = few();
        x.image(0);
        Check.sentence(x, "lying");
        x.restore(0);
        due("none", x.said(NONE), NONE);
    }

    void promise40_restore_no_such_one_or_nothing_kept() {
        LentBoxes x = few();
        check.due("nothing in 0", x.restore(0), false);
        check.due("nothing in 1", x.restore(1), false);
        x.image(1);
        check.due("nothing in 0 yet", x.restore(0), false);
        for (int wrong : WRONG) {
            check.due("restore " + wrong, x.restore(wrong), false);
        }
        check.due("restore 2", x.restore(2), false);
        due("acts can be undone behind a false one", x.undo(), 1);
        check.due("1", x.restore(1), true);
    }

    void promise40_restore_nothing_can_be_undone() {
        LentBoxes x = few();
        x.image(0);
        x.restore(0);
        due("none", x.undo(), NONE);
        x.days(1);
        due("one", x.undo(), 0);
        due("day 0", x.now(0), 0);
    }

    void promise40_restore_as_often_as_one_likes() {
        LentBoxes x = few();
        x.image(0);
        for (int i = 0; i < 3; i++) {
            x.days(5);
            x.lay(0, 0);
            x.restore(0);
            due("day", x.now(0), 0);
            due("lying", x.now(3), 3);
        }
    }

    void promise40_restore_leaves_the_tape_and_what_calls_told_last() {
        LentBoxes x = few();
        x.image(0);
        Check.vestry(x, "box a 50 9;box b 50 9;plot p 0;dead z 50 0;dead y 50 0;asks z b;");
        x.match();
        x.lend(0, 1);
        x.ring(0);
        x.soon(0);
        x.tag(0);
        Check.who(x, 2, 255);
        Check.book(x, 0, "day 4;");
        Check.sentence(x, "in z");
        x.feed(1, 2, 3, 4, 5);
        x.restore(0);
        due("tape", x.count(6), 20);
        due("match", x.matchOf(1), 1);
        due("ring", x.ringAt(0), 0);
        due("soonIn", x.soonIn(), 0);
        due("tag", x.byteAt(0), 'z');
        due("ask", x.ask(), 0);
        due("told", x.told(2), 4);
        due("fault", x.fault(), 3);
    }

    void promise40_restore_brings_back_all_that_was_so() {
        LentBoxes x = Check.made("box a 50 9;box b 50 9;plot p 3;plot q 0;dead k 50 0;dead l 50 0;dead m 60 1;kin k m;asks k b;"
                + "air 2;frost 9 9;");
        x.days(2);
        x.lend(0, 0);
        x.lend(1, 1);
        x.days(1);
        x.lay(0, 0);
        String seen = allOf(x);
        x.image(1);
        x.days(3);
        x.lay(1, 1);
        Check.vestry(x, ALL);
        x.drawn(20, 8);
        x.restore(1);
        check.due("as it was", allOf(x).equals(seen), true);
        Check.vestry(x, "dead k 50 0;");
        x.days(9);
        x.restore(1);
        check.due("as it was, again", allOf(x).equals(seen), true);
        due("kin", x.near(0, 2), 1);
        check.due("names", Check.tagOf(x, 0).equals("k laid in p"), true);
        check.due("names", Check.tagOf(x, 1).equals("l lies in b"), true);
    }

    // 41: count

    void promise41_count_another_what() {
        LentBoxes x = few();
        for (int wrong : WRONG) {
            due("what " + wrong, x.count(wrong), NONE);
        }
        due("7", x.count(7), NONE);
        due("6", x.count(6), 0);
        due("0", x.count(0), 2);
    }

    void promise41_count_of_kin_frost_air_and_tape() {
        LentBoxes x = Check.made(FEW + "frost 1 1;frost 1 1;");
        due("plots", x.count(1), 2);
        due("dead", x.count(2), 4);
        due("kin", x.count(3), 1);
        due("frost", x.count(4), 2);
        due("air", x.count(5), 2);
        x.feed(0, 0, 0, 0, 0);
        due("tape", x.count(6), 20);
        x.end(3);
        due("tape", x.count(6), 3);
    }
}
