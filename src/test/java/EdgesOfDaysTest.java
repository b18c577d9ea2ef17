/** Parts 2 and 3 of the document's Terms: each sentence that names an edge has its own test. */
public final class EdgesOfDaysTest {
    private static final int NONE = LentBoxes.NONE;
    private static final int COMING = 0;
    private static final int WAITING = 1;
    private static final int LYING = 2;

    private final Check check = new Check();

    public static void main(String[] args) throws ReflectiveOperationException {
        EdgesOfDaysTest tests = new EdgesOfDaysTest();
        tests.check.runEach(tests);
        tests.check.finish();
    }

    private void due(String what, long got, long want) {
        check.due(what, got, want);
    }

    void terms2_waiting_from_his_day_on() {
        LentBoxes x = Check.made("dead k 50 0;dead l 50 1;dead m 50 99;");
        due("day 0", x.dead(0, 1), WAITING);
        due("day 0: not yet 1", x.dead(1, 1), COMING);
        x.days(1);
        due("day 1", x.dead(1, 1), WAITING);
        x.days(60);
        x.days(37);
        due("day 98: not yet 99", x.dead(2, 1), COMING);
        x.days(1);
        due("day 99", x.dead(2, 1), WAITING);
    }

    void terms2_box_is_free_if_nobody_lies_in_it_and_it_is_not_aired() {
        LentBoxes x = Check.made("box a 50 9;plot p 0;dead k 50 0;air 1;");
        due("free", x.box(0, 4), 1);
        x.lend(0, 0);
        due("he lies in it", x.box(0, 4), 0);
        x.lay(0, 0);
        due("aired", x.box(0, 4), 0);
        x.days(1);
        due("free again", x.box(0, 4), 1);
    }

    void terms2_box_that_is_worn_is_free_yet() {
        LentBoxes x = Check.made("box a 50 1;plot p 0;dead k 50 0;air 0;");
        x.lend(0, 0);
        x.lay(0, 0);
        due("free", x.box(0, 4), 1);
        due("bits", x.now(5), 1);
    }

    void terms2_plot_is_free_if_it_does_not_rest() {
        LentBoxes x = Check.made("box a 50 9;plot p 1;dead k 50 0;");
        x.lend(0, 0);
        due("free", x.now(6), 1);
        x.lay(0, 0);
        due("rests", x.now(6), 0);
        x.days(1);
        due("free", x.now(6), 1);
    }

    /** k lies in the one box, which is worn by that; m and n are longer than it, n comes later. */
    private static LentBoxes wornBox() {
        LentBoxes x = Check.made("box a 50 1;plot p 0;air 0;dead k 50 0;dead l 50 0;dead m 51 0;dead n 51 9;");
        x.lend(0, 0);
        return x;
    }

    void terms2_lend_why_not_1_ahead_of_2_3_and_4() {
        LentBoxes x = wornBox();
        due("he comes", x.lend(3, 0), 1);
        due("he lies", x.lend(0, 0), 1);
        x.lay(0, 0);
        due("he is laid", x.lend(0, 0), 1);
    }

    void terms2_lend_why_not_2_ahead_of_3_and_4() {
        due("not free, too long, worn", wornBox().lend(2, 0), 2);
        due("not free, worn", wornBox().lend(1, 0), 2);
    }

    void terms2_lend_why_not_3_ahead_of_4() {
        LentBoxes x = wornBox();
        x.lay(0, 0);
        due("too long, worn", x.lend(2, 0), 3);
    }

    void terms2_lend_why_not_4_alone() {
        LentBoxes x = wornBox();
        x.lay(0, 0);
        due("worn", x.lend(1, 0), 4);
        x.mend(0);
        due("mended", x.lend(1, 0), 0);
    }

    void terms2_lend_he_may_be_as_long_as_the_box() {
        LentBoxes x = Check.made("box a 50 9;box b 50 9;dead k 50 0;dead l 51 0;dead m 49 0;");
        due("longer by one", x.lend(1, 0), 3);
        due("as long", x.lend(0, 0), 0);
        due("shorter by one", x.lend(2, 1), 0);
    }

    void terms2_lend_as_often_as_it_lasts_and_not_once_more() {
        LentBoxes x = Check.made("box a 50 2;plot p 0;air 0;dead k 50 0;dead l 50 0;dead m 50 0;");
        for (int d = 0; d < 2; d++) {
            due("time " + d, x.lend(d, 0), 0);
            due("lent", x.box(0, 2), d + 1);
            x.lay(d, 0);
        }
        due("once more", x.lend(2, 0), 4);
        due("lent yet", x.box(0, 2), 2);
    }

    void terms2_lend_refused_changes_nothing() {
        LentBoxes x = wornBox();
        for (int d = 0; d < 4; d++) {
            x.lend(d, 0);
        }
        due("lent once", x.box(0, 2), 1);
        due("k lies in it", x.box(0, 3), 0);
        due("who waits", x.now(2), 6);
        due("who had it", x.had(0, 1), NONE);
        due("one act to undo", x.undo(), 0);
    }

    /** k, laid in p, rests there for a day, on which there is frost, too; l is her kin and lies, as m does. */
    private static LentBoxes frozenPlot() {
        LentBoxes x = Check.made("box a 50 9;box b 50 9;box c 50 9;plot p 2;dead k 50 0;dead l 50 0;dead m 50 0;dead n 50 0;"
                + "kin k l;kin k n;frost 1 1;");
        x.lend(0, 0);
        x.lend(1, 1);
        x.lend(2, 2);
        x.lay(0, 0);
        x.days(1);
        return x;
    }

    void terms2_lay_why_not_1_ahead_of_2_3_and_4() {
        LentBoxes x = frozenPlot();
        due("she waits", x.lay(3, 0), 1);
        due("she is laid", x.lay(0, 0), 1);
    }

    void terms2_lay_why_not_2_ahead_of_3_and_4() {
        due("frost, rests, kin", frozenPlot().lay(1, 0), 2);
        due("frost, rests", frozenPlot().lay(2, 0), 2);
    }

    void terms2_lay_why_not_3_ahead_of_4() {
        LentBoxes x = Check.made("box a 50 9;box b 50 9;plot p 1;dead k 50 0;dead l 50 0;kin k l;");
        x.lend(0, 0);
        x.lend(1, 1);
        x.lay(0, 0);
        due("rests, kin", x.lay(1, 0), 3);
    }

    void terms2_lay_why_not_4_alone() {
        LentBoxes x = frozenPlot();
        x.days(1);
        due("kin", x.lay(1, 0), 4);
        due("no kin", x.lay(2, 0), 0);
        x.days(2);
        due("who was laid there latest is no kin", x.lay(1, 0), 0);
    }

    void terms2_lay_refused_changes_nothing() {
        LentBoxes x = frozenPlot();
        for (int d = 0; d < 4; d++) {
            x.lay(d, 0);
        }
        due("one was laid", x.plot(0, 3), 1);
        due("who lies", x.now(3), 6);
        due("rests for one more", x.plot(0, 2), 1);
        due("acts to undo: those of before", x.undo(), 4);
    }

    void terms2_frost_from_its_first_to_its_last_day() {
        LentBoxes x = Check.made("box a 50 9;plot p 0;dead k 50 0;frost 2 3;");
        x.lend(0, 0);
        int[] frost = {0, 0, 1, 1, 1, 0, 0};
        for (int day = 0; day < frost.length; day++) {
            due("day " + day, x.now(7), frost[day]);
            due("laying on day " + day, Check.book(x, 0, "lay k p;"), frost[day] == 1 ? 0 : NONE);
            x.days(1);
        }
    }

    void terms2_frost_of_one_day_from_day_0() {
        LentBoxes x = Check.made("frost 0 1;");
        due("day 0", x.now(7), 1);
        x.days(1);
        due("day 1", x.now(7), 0);
    }

    void terms2_frost_of_60_days_from_day_199() {
        LentBoxes x = Check.made("frost 199 60;");
        for (int i = 0; i < 3; i++) {
            x.days(60);
        }
        x.days(18);
        due("day 198", x.now(7), 0);
        x.days(1);
        due("day 199", x.now(7), 1);
        x.days(59);
        due("day 258", x.now(7), 1);
        x.days(1);
        due("day 259", x.now(7), 0);
    }

    void terms2_frost_of_any_of_them() {
        LentBoxes x = Check.made("frost 6 1;frost 4 1;frost 2 1;frost 2 2;");
        int[] frost = {0, 0, 1, 1, 1, 0, 1, 0};
        for (int day = 0; day < frost.length; day++) {
            due("day " + day, x.now(7), frost[day]);
            x.days(1);
        }
    }

    void terms2_plot_rests_till_as_many_days_are_over_as_told() {
        LentBoxes x = Check.made("box a 50 9;plot p 60;dead k 50 0;");
        x.lend(0, 0);
        x.lay(0, 0);
        for (int left = 60; left > 0; left--) {
            due("left", x.plot(0, 2), left);
            due("not free", x.now(6), 0);
            x.days(1);
        }
        due("none left", x.plot(0, 2), 0);
        due("free", x.now(6), 1);
        x.days(1);
        due("none left yet", x.plot(0, 2), 0);
    }

    void terms2_plot_of_rest_0_does_not_rest_at_all() {
        LentBoxes x = Check.made("box a 50 9;box b 50 9;plot p 0;dead k 50 0;dead l 50 0;");
        x.lend(0, 0);
        x.lend(1, 1);
        due("one", x.lay(0, 0), 0);
        due("free at once", x.plot(0, 2), 0);
        due("and the other", x.lay(1, 0), 0);
    }

    void terms2_box_is_aired_till_as_many_days_are_over_as_told() {
        LentBoxes x = Check.made("box a 50 9;plot p 0;dead k 50 0;air 9;");
        x.lend(0, 0);
        x.lay(0, 0);
        for (int left = 9; left > 0; left--) {
            due("left", x.box(0, 5), left);
            due("not free", x.now(5), 0);
            x.days(1);
        }
        due("none left", x.box(0, 5), 0);
        due("free", x.now(5), 1);
        x.days(1);
        due("none left yet", x.box(0, 5), 0);
    }

    void terms2_box_is_not_aired_at_all_with_air_0() {
        LentBoxes x = Check.made("box a 50 9;plot p 0;dead k 50 0;dead l 50 0;air 0;");
        x.lend(0, 0);
        x.lay(0, 0);
        due("none left", x.box(0, 5), 0);
        due("lent at once", x.lend(1, 0), 0);
    }

    void terms2_swap_why_not_1_ahead_of_2() {
        LentBoxes x = Check.made("box a 50 9;box b 90 9;plot p 0;dead k 50 0;dead l 90 0;dead m 90 0;");
        x.lend(0, 0);
        due("one waits, and is too long", x.swap(0, 1), 1);
        due("whichever first", x.swap(1, 0), 1);
        x.lend(1, 1);
        x.lay(1, 0);
        due("one is laid", x.swap(0, 1), 1);
        due("both are not lying", x.swap(1, 2), 1);
    }

    void terms2_swap_why_not_2_whichever_is_too_long() {
        LentBoxes x = Check.made("box a 50 9;box b 60 9;dead k 50 0;dead l 51 0;");
        x.lend(0, 0);
        x.lend(1, 1);
        due("the second is", x.swap(0, 1), 2);
        due("the first is", x.swap(1, 0), 2);
        due("nobody went", x.dead(0, 2), 0);
        due("nobody went", x.dead(1, 2), 1);
    }

    void terms2_swap_one_may_be_as_long_as_the_others_box() {
        LentBoxes x = Check.made("box a 50 9;box b 60 9;dead k 50 0;dead l 50 0;");
        x.lend(0, 0);
        x.lend(1, 1);
        due("they swap", x.swap(0, 1), 0);
        due("and back", x.swap(0, 1), 0);
    }

    void terms2_swap_is_not_lending() {
        LentBoxes x = Check.made("box a 50 1;box b 50 1;dead k 50 0;dead l 50 0;");
        x.lend(0, 0);
        x.lend(1, 1);
        due("worn boxes are swapped", x.swap(0, 1), 0);
        due("a lent", x.box(0, 2), 1);
        due("b lent", x.box(1, 2), 1);
        due("a had", x.had(0, 0), 0);
        due("a had no other", x.had(0, 1), NONE);
    }

    void terms2_swapped_ones_leave_the_box_in_which_they_lie() {
        LentBoxes x = Check.made("box a 50 9;box b 50 9;plot p 0;dead k 50 0;dead l 50 0;air 3;");
        x.lend(0, 0);
        x.lend(1, 1);
        x.swap(0, 1);
        x.lay(0, 0);
        due("b is aired", x.box(1, 5), 3);
        due("a is not", x.box(0, 5), 0);
        due("l lies in a", x.box(0, 3), 1);
        due("nobody in b", x.box(1, 3), NONE);
    }

    void terms2_mend_why_not_1_it_was_not_lent() {
        LentBoxes x = Check.made("box a 50 9;plot p 0;dead k 50 0;");
        due("never", x.mend(0), 1);
        x.lend(0, 0);
        x.lay(0, 0);
        due("lent once", x.mend(0), 0);
        due("not again behind that", x.mend(0), 1);
    }

    void terms2_mend_why_not_2_somebody_lies_in_it() {
        LentBoxes x = Check.made("box a 50 9;box b 50 9;dead k 50 0;dead l 50 0;");
        x.lend(0, 0);
        due("he lies in it", x.mend(0), 2);
        due("lent yet", x.box(0, 2), 1);
        x.lend(1, 1);
        x.swap(0, 1);
        due("another lies in it", x.mend(0), 2);
    }

    void terms2_mend_while_it_is_aired() {
        LentBoxes x = Check.made("box a 50 1;plot p 0;dead k 50 0;air 9;");
        x.lend(0, 0);
        x.lay(0, 0);
        due("mended", x.mend(0), 0);
        due("never lent", x.box(0, 2), 0);
        due("aired yet", x.box(0, 5), 9);
    }

    void terms2_days_are_0_to_399_and_at_400_all_are_over() {
        LentBoxes x = Check.made("box a 50 9;dead k 50 0;dead l 60 0;");
        x.lend(0, 0);
        for (int i = 0; i < 6; i++) {
            x.days(60);
        }
        due("39", x.days(39), 39);
        due("399", x.now(0), 399);
        due("the last", x.days(1), 1);
        due("400", x.now(0), 400);
        due("none goes", x.days(1), 0);
        due("nor 60", x.days(60), 0);
        due("400 yet", x.now(0), 400);
        due("waited 400", x.dead(1, 4), 400);
        due("lain 400", x.dead(0, 5), 400);
    }

    void terms2_a_day_counts_for_who_waits_and_lies_as_it_goes() {
        LentBoxes x = Check.made("box a 50 9;plot p 0;dead k 50 0;dead l 50 1;");
        x.days(1);
        due("k waited it", x.dead(0, 4), 1);
        due("l comes behind it", x.dead(1, 4), 0);
        due("and waits", x.dead(1, 1), WAITING);
        x.lend(0, 0);
        x.days(1);
        due("k waited no more", x.dead(0, 4), 1);
        due("k has lain", x.dead(0, 5), 1);
        due("l waited", x.dead(1, 4), 1);
        x.lay(0, 0);
        x.days(1);
        due("k is laid, and lies no more", x.dead(0, 5), 1);
        due("nor waits", x.dead(0, 4), 1);
    }

    void terms3_match_is_the_most_ahead_of_the_first() {
        LentBoxes x = Check.made("box a 90 9;box b 50 9;dead k 50 0;dead l 90 0;");
        due("two", x.match(), 2);
        due("k leaves a to l", x.matchOf(0), 1);
        due("l", x.matchOf(1), 0);
    }

    void terms3_match_the_least_box_one_by_one() {
        LentBoxes x = Check.made("box a 50 9;box b 50 9;box c 50 9;dead k 50 0;dead l 50 0;");
        due("two", x.match(), 2);
        due("k: the least", x.matchOf(0), 0);
        due("l: the next", x.matchOf(1), 1);
    }

    void terms3_match_none_is_behind_all_boxes() {
        LentBoxes x = Check.made("box a 50 9;dead k 50 0;dead l 50 0;dead m 50 0;");
        due("one", x.match(), 1);
        due("the first has it", x.matchOf(0), 0);
        due("not the second", x.matchOf(1), NONE);
        due("nor the third", x.matchOf(2), NONE);
        LentBoxes y = Check.made("box a 50 9;box b 90 9;dead k 50 0;dead l 90 0;dead m 50 0;");
        due("two", y.match(), 2);
        due("k: a", y.matchOf(0), 0);
        due("l: b ahead of none, though m could", y.matchOf(1), 1);
        due("m: none", y.matchOf(2), NONE);
    }

    void terms3_match_by_those_who_could_be_lent_now() {
        LentBoxes x = Check.made("box a 50 1;box b 50 9;box c 40 9;plot p 0;air 0;dead k 50 0;dead l 50 0;dead m 50 0;dead n 50 1;");
        due("a, b", x.match(), 2);
        x.lend(0, 0);
        x.lay(0, 0);
        due("a is worn", x.match(), 1);
        due("l: b", x.matchOf(1), 1);
        x.lend(1, 1);
        due("b is not free, c is too short", x.match(), 0);
        due("none", x.matchOf(2), NONE);
    }

    void terms3_match_of_9_boxes_and_12_dead() {
        LentBoxes x = Check.made(Check.many(9, "box b# 50 9;") + Check.many(12, "dead d# 50 0;"));
        due("nine", x.match(), 9);
        for (int d = 0; d < 12; d++) {
            due("of " + d, x.matchOf(d), d < 9 ? d : NONE);
        }
    }

    void terms3_soon_of_like_ones_the_least_plot() {
        LentBoxes x = Check.made("box a 50 9;plot p 0;plot q 0;dead k 50 0;");
        x.lend(0, 0);
        due("now", x.soon(0), 0);
        due("the least", x.soonIn(), 0);
    }

    void terms3_soon_the_soonest_ahead_of_the_least_plot() {
        LentBoxes x = Check.made("box a 50 9;box b 50 9;box c 50 9;plot p 2;plot q 1;dead k 50 0;dead l 50 0;dead m 50 0;");
        for (int d = 0; d < 3; d++) {
            x.lend(d, d);
        }
        x.lay(0, 0);
        x.lay(1, 1);
        due("tomorrow", x.soon(2), 1);
        due("in q", x.soonIn(), 1);
        x.days(1);
        due("now", x.soon(2), 0);
        x.days(1);
        due("now", x.soon(2), 0);
        due("p, as both are free", x.soonIn(), 0);
    }

    void terms3_soon_day_400_is_no_matter() {
        LentBoxes x = Check.made("box a 50 9;box b 50 9;plot p 60;dead k 50 0;dead l 50 0;");
        x.lend(0, 0);
        x.lend(1, 1);
        for (int i = 0; i < 6; i++) {
            x.days(60);
        }
        x.days(40);
        due("laid on day 400", x.lay(0, 0), 0);
        due("behind 60 days that never go", x.soon(1), 60);
    }

    void terms3_soon_behind_all_the_frosts() {
        LentBoxes x = Check.made("box a 50 9;plot p 0;dead k 50 0;frost 0 60;frost 60 60;frost 120 60;frost 180 60;");
        x.lend(0, 0);
        due("behind 240", x.soon(0), 240);
        due("in p", x.soonIn(), 0);
        x.days(1);
        due("one fewer", x.soon(0), 239);
    }

    /** No vestry can tell of more: the last frost ends ahead of day 259, and no plot rests longer than 60 days. */
    void terms3_soon_at_its_greatest() {
        LentBoxes x = Check.made("box a 50 9;box b 50 9;plot p 60;dead k 50 0;dead l 50 0;"
                + "frost 60 60;frost 120 60;frost 180 60;frost 199 60;");
        x.lend(0, 0);
        x.lend(1, 1);
        x.lay(0, 0);
        due("behind rest and frosts", x.soon(1), 259);
        due("in p", x.soonIn(), 0);
    }

    void terms3_soon_where_rest_and_frost_end_on_one_day() {
        LentBoxes x = Check.made("box a 50 9;box b 50 9;plot p 3;dead k 50 0;dead l 50 0;frost 1 2;");
        x.lend(0, 0);
        x.lend(1, 1);
        x.lay(0, 0);
        due("3", x.soon(1), 3);
        x.days(3);
        due("and so it is", x.lay(1, 0), 0);
    }

    void terms3_soon_never_where_kin_was_laid_latest() {
        LentBoxes x = Check.made("box a 50 9;box b 50 9;plot p 0;plot q 0;dead k 50 0;dead l 50 0;kin k l;");
        x.lend(0, 0);
        x.lend(1, 1);
        x.lay(0, 0);
        due("now", x.soon(1), 0);
        due("in the other", x.soonIn(), 1);
    }

    void terms3_crowd_now_and_behind_each_of_n_days() {
        LentBoxes x = Check.made("dead k 50 0;dead l 50 1;dead m 50 2;dead n 50 99;");
        int[] want = {1, 2, 3, 3};
        for (int n = 0; n < want.length; n++) {
            due("crowd(" + n + ")", x.crowd(n), want[n]);
        }
        due("98", x.crowd(98), 3);
        due("99", x.crowd(99), 4);
        due("nothing went by", x.now(0), 0);
    }

    void terms3_crowd_from_a_later_day_on() {
        LentBoxes x = Check.made("dead k 50 0;dead l 50 5;dead m 50 99;");
        x.days(2);
        due("day 4", x.crowd(2), 1);
        due("day 5", x.crowd(3), 2);
        due("day 98", x.crowd(96), 2);
        due("day 99", x.crowd(97), 3);
    }

    void terms3_crowd_and_need_on_day_400() {
        LentBoxes x = Check.made("dead k 50 0;dead l 50 99;");
        for (int i = 0; i < 7; i++) {
            x.days(60);
        }
        due("crowd(0)", x.crowd(0), 2);
        due("crowd(99)", x.crowd(99), 2);
        due("need(0, 1)", x.need(0, 1), 2);
        due("need(99, 60)", x.need(99, 60), 2);
    }

    void terms3_crowd_of_those_who_wait_alone() {
        LentBoxes x = Check.made("box a 50 9;box b 50 9;plot p 0;dead k 50 0;dead l 50 0;dead m 50 0;");
        x.lend(0, 0);
        x.lend(1, 1);
        x.lay(1, 0);
        due("one", x.crowd(0), 1);
        due("one", x.crowd(99), 1);
    }

    void terms3_need_from_this_day_for_m_days_and_the_air() {
        LentBoxes x = Check.made("dead k 50 0;dead l 50 3;dead m 50 5;air 2;");
        due("m 1: k till day 2, l from day 3", x.need(3, 1), 1);
        due("m 2: k till day 3", x.need(3, 2), 2);
        due("m 1: m with l till day 5", x.need(5, 1), 2);
        due("n 4: m not yet", x.need(4, 1), 1);
        due("m 3: k till day 4", x.need(5, 3), 2);
        due("m 4: all on day 5", x.need(5, 4), 3);
    }

    void terms3_need_without_air() {
        LentBoxes x = Check.made("dead k 50 0;dead l 50 1;air 0;");
        due("one after the other", x.need(99, 1), 1);
        due("both", x.need(1, 2), 2);
        due("n 0", x.need(0, 60), 1);
    }

    void terms3_need_of_who_lies_and_waits_from_this_day_on() {
        LentBoxes x = Check.made("box a 50 9;box b 50 9;plot p 0;dead k 50 0;dead l 50 0;dead m 50 0;dead n 50 4;air 9;");
        x.lend(0, 0);
        x.lend(1, 1);
        x.lay(1, 0);
        x.days(3);
        due("k, m; l is laid, and b, that is aired, no matter", x.need(0, 1), 2);
        due("n on the next day", x.need(1, 1), 3);
    }

    void terms3_need_of_lengths_and_frost_no_matter() {
        LentBoxes x = Check.made("dead k 99 0;dead l 10 0;frost 0 60;");
        due("two without a box", x.need(0, 1), 2);
    }

    void terms3_ring_of_one_who_lies_in_what_he_asks_for() {
        LentBoxes x = Check.made("box a 50 9;dead k 50 0;asks k a;");
        x.lend(0, 0);
        due("he alone", x.ring(0), 1);
        due("he", x.ringAt(0), 0);
    }

    void terms3_ring_of_9_in_all_boxes() {
        StringBuilder text = new StringBuilder(Check.many(9, "box b# 50 9;") + Check.many(12, "dead d# 50 0;"));
        for (int d = 0; d < 9; d++) {
            text.append("asks d").append((char) ('a' + d)).append(" b").append((char) ('a' + (d + 1) % 9)).append(';');
        }
        LentBoxes x = Check.made(text.toString());
        for (int d = 0; d < 9; d++) {
            x.lend(d, d);
        }
        due("nine", x.ring(4), 9);
        for (int k = 0; k < 9; k++) {
            due("the " + k + "-th", x.ringAt(k), (4 + k) % 9);
        }
        due("no tenth", x.ringAt(9), NONE);
    }

    void terms3_who_has_255_for_none() {
        LentBoxes x = Check.made("box a 50 9;box b 50 9;plot p 0;dead k 50 0;dead l 50 0;dead m 50 0;");
        x.lend(0, 0);
        x.lend(1, 1);
        x.lay(1, 0);
        due("in a", Check.who(x, 2, 0), 1);
        due("in b", Check.who(x, 2, 1), 0);
        due("in no box", Check.who(x, 2, 255), 6);
        due("in p", Check.who(x, 3, 0), 2);
        due("in no plot", Check.who(x, 3, 255), 5);
    }

    void terms3_who_waited_more_than_a_byte_can_tell() {
        LentBoxes x = Check.made("dead k 50 0;");
        for (int i = 0; i < 4; i++) {
            x.days(60);
        }
        x.days(15);
        due("255", Check.who(x, 1, 255), 1);
        x.days(1);
        due("256 is not 0", Check.who(x, 1, 0), 0);
        due("256 is not 255", Check.who(x, 1, 255), 0);
    }

    void terms3_who_by_1_to_6_pairs() {
        LentBoxes x = Check.made("dead k 50 0;dead l 60 0;");
        due("none", Check.who(x), NONE);
        due("1", Check.who(x, 0, 50), 1);
        due("6", Check.who(x, 1, 0, 1, 0, 1, 0, 1, 0, 1, 0, 0, 60), 2);
        due("7", Check.who(x, 1, 0, 1, 0, 1, 0, 1, 0, 1, 0, 1, 0, 0, 60), NONE);
        due("a half", Check.who(x, 0), NONE);
        due("1 and a half", Check.who(x, 0, 50, 1), NONE);
        due("6 and a half", Check.who(x, 1, 0, 1, 0, 1, 0, 1, 0, 1, 0, 0, 60, 0), NONE);
    }

    void terms3_ask_of_like_ones_the_first() {
        LentBoxes x = Check.made("dead k 50 0;dead l 50 0;dead m 50 1;");
        x.days(2);
        due("all", Check.who(x, 0, 50), 7);
        due("waited alone tells some apart", x.ask(), 1);
        due("one", Check.who(x, 1, 1), 4);
        due("all four alike", x.ask(), 0);
    }

    void terms3_ask_where_the_greatest_number_is_the_least() {
        LentBoxes x = Check.made("box a 90 9;dead k 10 0;dead l 20 0;dead m 30 0;dead n 30 0;dead o 30 0;dead p 30 0;");
        x.days(1);
        x.lend(0, 0);
        due("all", Check.who(x, 1, 1), 63);
        due("long: 4 of 6; box: 5 of 6", x.ask(), 0);
        LentBoxes y = Check.made("box a 90 9;box b 90 9;box c 90 9;dead k 10 0;dead l 20 0;dead m 30 0;dead n 30 0;dead o 30 0;dead p 30 0;");
        for (int d = 2; d < 5; d++) {
            y.lend(d, d - 2);
        }
        due("all", Check.who(y, 1, 0), 63);
        due("long: 4 of 6; box: 3 of 6", y.ask(), 2);
    }

    void terms3_near_0_for_one_alike() {
        LentBoxes x = Check.made("dead k 50 0;dead l 50 0;");
        due("alike", x.near(1, 1), 0);
        due("no kin", x.near(0, 1), NONE);
    }

    void terms3_near_through_all_12() {
        StringBuilder text = new StringBuilder(Check.many(12, "dead d# 50 0;"));
        for (int d = 0; d < 11; d++) {
            text.append("kin d").append((char) ('a' + d)).append(" d").append((char) ('b' + d)).append(';');
        }
        LentBoxes x = Check.made(text.toString());
        for (int d = 0; d < 12; d++) {
            due("0 to " + d, x.near(0, d), d);
            due(d + " to 11", x.near(d, 11), 11 - d);
        }
    }

    void terms3_had_4_are_known() {
        LentBoxes x = Check.made("box a 50 9;plot p 0;air 0;" + Check.many(5, "dead d# 50 0;"));
        for (int d = 0; d < 4; d++) {
            due("the " + d + "-th is not there yet", x.had(0, d), NONE);
            x.lend(d, 0);
            x.lay(d, 0);
        }
        due("the first yet", x.had(0, 3), 0);
        x.lend(4, 0);
        due("not any more", x.had(0, 3), 1);
        due("the latest", x.had(0, 0), 4);
    }

    void terms3_had_one_who_swapped_is_not_told() {
        LentBoxes x = Check.made("box a 50 9;box b 50 9;dead k 50 0;dead l 50 0;");
        x.lend(0, 0);
        x.lend(1, 1);
        x.swap(0, 1);
        due("a", x.had(0, 0), 0);
        due("a", x.had(0, 1), NONE);
        due("b", x.had(1, 0), 1);
        due("b", x.had(1, 1), NONE);
    }

    void terms3_fractions_in_least_terms() {
        LentBoxes x = Check.made("box a 50 99;box b 50 1;dead k 50 0;dead l 50 0;dead m 50 0;");
        due("0 by 99: above", x.wear(0, 0), 0);
        due("0 by 99: below", x.wear(0, 1), 1);
        x.lend(0, 0);
        x.lend(1, 1);
        due("1 by 99: above", x.wear(0, 0), 1);
        due("1 by 99: below", x.wear(0, 1), 99);
        due("1 by 1: above", x.wear(1, 0), 1);
        due("1 by 1: below", x.wear(1, 1), 1);
        due("0 by 3: above", x.mean(0), 0);
        due("0 by 3: below", x.mean(1), 1);
        x.days(1);
        due("1 by 3: above", x.mean(0), 1);
        due("1 by 3: below", x.mean(1), 3);
        x.days(2);
        due("3 by 3: above", x.mean(0), 1);
        due("3 by 3: below", x.mean(1), 1);
        x.days(3);
        due("6 by 3: above", x.mean(0), 2);
        due("6 by 3: below", x.mean(1), 1);
    }

    void terms3_mean_at_its_greatest() {
        LentBoxes x = Check.made(Check.many(12, "dead d# 50 0;"));
        for (int i = 0; i < 7; i++) {
            x.days(60);
        }
        due("above", x.mean(0), 400);
        due("below", x.mean(1), 1);
    }

    void terms3_longest_of_like_ones_the_first() {
        LentBoxes x = Check.made("dead k 50 1;dead l 50 0;dead m 50 0;");
        due("nobody waited", x.longest(), NONE);
        x.days(1);
        due("l", x.longest(), 1);
    }

    void terms3_tag_of_the_longest_names() {
        LentBoxes x = Check.made("box bbbbbbb 50 9;plot ppppppp 0;dead ddddddd 50 1;");
        check.due("comes", Check.tagOf(x, 0).equals("ddddddd comes"), true);
        x.days(1);
        check.due("waits", Check.tagOf(x, 0).equals("ddddddd waits"), true);
        x.lend(0, 0);
        check.due("lies", Check.tagOf(x, 0).equals("ddddddd lies in bbbbbbb"), true);
        x.lay(0, 0);
        check.due("laid", Check.tagOf(x, 0).equals("ddddddd laid in ppppppp"), true);
    }

    void terms3_tag_of_the_shortest_names() {
        LentBoxes x = Check.made("box b 50 9;plot p 0;dead d 50 1;");
        check.due("comes", Check.tagOf(x, 0).equals("d comes"), true);
        x.days(1);
        x.lend(0, 0);
        check.due("lies", Check.tagOf(x, 0).equals("d lies in b"), true);
        x.lay(0, 0);
        check.due("laid", Check.tagOf(x, 0).equals("d laid in p"), true);
    }

    void terms3_tag_by_the_box_in_which_he_lies_behind_a_swap() {
        LentBoxes x = Check.made("box a 50 9;box b 50 9;dead k 50 0;dead l 50 0;");
        x.lend(0, 0);
        x.lend(1, 1);
        x.swap(0, 1);
        check.due("k", Check.tagOf(x, 0).equals("k lies in b"), true);
        check.due("l", Check.tagOf(x, 1).equals("l lies in a"), true);
    }

    void terms3_drawn_x_wraps_as_an_int_and_is_shifted_without_its_sign() {
        // From MIN_VALUE x becomes MIN_VALUE and 12345: 8388656 % 8 is 0, so one is lent a box on the first day.
        LentBoxes x = Check.made("box a 50 9;dead k 50 0;");
        due("one day", x.drawn(1, Integer.MIN_VALUE), 1);
        due("lent", x.dead(0, 1), LYING);
        for (int seed : new int[] {Integer.MAX_VALUE, -1, 0, 1, Integer.MIN_VALUE + 1, 1 << 30, -(1 << 30)}) {
            LentBoxes y = Check.made("box a 50 9;dead k 50 0;");
            int first = (int) ((seed * 1103515245L + 12345L & 0xffffffffL) >> 8) % 8;
            y.drawn(1, seed);
            due("seed " + seed, y.dead(0, 1), first <= 2 ? LYING : WAITING);
        }
    }

    private static final String DRAWN = "box a 50 9;box b 50 9;box c 50 9;plot p 0;plot q 0;" + Check.many(5, "dead d# 50 0;")
            + "air 0;";

    void terms3_drawn_0_1_or_2_one_is_lent_a_box() {
        for (int act = 0; act <= 2; act++) {
            LentBoxes x = Check.made(DRAWN);
            due("a day", x.drawn(1, Check.seedFor(8, act, 5, 4 - act, 3, act)), 1);
            due("his box", x.dead(4 - act, 2), act);
            due("nobody else", x.now(3), 1 << 4 - act);
            due("the day went behind it", x.dead(4 - act, 5), 1);
        }
    }

    void terms3_drawn_3_or_4_one_is_laid() {
        for (int act = 3; act <= 4; act++) {
            LentBoxes x = Check.made(DRAWN);
            x.lend(4, 0);
            x.lend(3, 1);
            due("a day", x.drawn(1, Check.seedFor(8, act, 5, act, 2, act - 3)), 1);
            due("his plot", x.dead(act, 3), act - 3);
            due("he alone", x.now(4), 1 << act);
        }
    }

    void terms3_drawn_5_a_box_is_mended() {
        LentBoxes x = Check.made(DRAWN);
        for (int d = 0; d < 3; d++) {
            x.lend(d, d);
            x.lay(d, 0);
        }
        due("a day", x.drawn(1, Check.seedFor(8, 5, 3, 1)), 1);
        due("b", x.box(1, 2), 0);
        due("not a", x.box(0, 2), 1);
        due("not c", x.box(2, 2), 1);
    }

    void terms3_drawn_6_two_swap_if_unlike() {
        LentBoxes x = Check.made(DRAWN);
        for (int d = 0; d < 3; d++) {
            x.lend(d, d);
        }
        due("a day", x.drawn(1, Check.seedFor(8, 6, 5, 2, 5, 0)), 1);
        due("his", x.dead(2, 2), 0);
        due("hers", x.dead(0, 2), 2);
        due("alike", x.drawn(1, Check.seedFor(8, 6, 5, 1, 5, 1)), 1);
        due("nothing", x.dead(1, 2), 1);
        due("lies yet", x.box(1, 3), 1);
    }

    void terms3_drawn_7_nothing_is_done() {
        LentBoxes x = Check.made(DRAWN);
        x.lend(0, 0);
        due("a day", x.drawn(1, Check.seedFor(8, 7)), 1);
        due("lying", x.now(3), 1);
        due("laid", x.now(4), 0);
        due("no draw but that of 8", x.drawn(2, Check.seedFor(8, 7, 8, 0, 5, 4, 3, 2)), 2);
        due("the second day's", x.dead(4, 2), 2);
    }

    void terms3_drawn_each_if_it_can_be() {
        LentBoxes x = Check.made(DRAWN);
        x.lend(0, 0);
        due("not free", x.drawn(1, Check.seedFor(8, 0, 5, 1, 3, 0)), 1);
        due("he waits not laid", x.drawn(1, Check.seedFor(8, 3, 5, 1, 2, 0)), 1);
        due("lies in it", x.drawn(1, Check.seedFor(8, 5, 3, 0)), 1);
        due("one lies not", x.drawn(1, Check.seedFor(8, 6, 5, 0, 5, 1)), 1);
        due("lying", x.now(3), 1);
        due("laid", x.now(4), 0);
        due("lent", x.box(0, 2), 1);
        due("the draws were made all the same", x.drawn(2, Check.seedFor(8, 0, 5, 1, 3, 0, 8, 1, 5, 1, 3, 1)), 2);
        due("the second day's", x.dead(1, 2), 1);
    }

    void terms3_drawn_of_one_of_each() {
        LentBoxes x = Check.made("box a 50 9;plot p 0;dead k 50 0;");
        x.drawn(1, Check.seedFor(8, 2, 1, 0, 1, 0));
        due("lent", x.dead(0, 1), LYING);
        due("with himself", x.drawn(1, Check.seedFor(8, 6, 1, 0, 1, 0)), 1);
        due("no swap", x.dead(0, 2), 0);
        x.drawn(1, Check.seedFor(8, 4, 1, 0, 1, 0));
        due("laid", x.now(4), 1);
        x.drawn(1, Check.seedFor(8, 5, 1, 0));
        due("mended", x.box(0, 2), 0);
    }

    /** A draw of one is a draw, too: x goes on by it. */
    void terms3_drawn_x_goes_on_by_draws_of_one() {
        int seed = Check.seedFor(8, 1, 1, 0, 1, 0, 8, 3, 1, 0, 1, 0, 8, 5, 1, 0);
        LentBoxes x = Check.made("box a 50 9;plot p 0;dead k 50 0;");
        due("three days", x.drawn(3, seed), 3);
        due("laid on the second", x.dead(0, 5), 1);
        due("mended on the third", x.box(0, 2), 0);
        seed = Check.seedFor(8, 6, 1, 0, 1, 0, 8, 2, 1, 0, 1, 0, 8, 7, 8, 7, 8, 7);
        LentBoxes y = Check.made("box a 50 9;plot p 0;dead k 50 0;");
        y.drawn(5, seed);
        due("lent on the second", y.dead(0, 4), 1);
        due("lay from then on", y.dead(0, 5), 4);
    }

    void terms3_drawn_nothing_more_is_drawn_if_there_are_none() {
        drawnAsOn("dead k 50 0;dead l 50 0;plot p 0;plot q 0;", 0, 1, 2, 5);
        drawnAsOn("dead k 50 0;dead l 50 0;box a 50 9;box b 50 9;", 3, 4);
        drawnAsOn("box a 50 9;box b 50 9;plot p 0;plot q 0;", 0, 1, 2, 3, 4, 6);
    }

    /** On a day of one of these acts only the draw of 8 is made: the next day goes as by the x behind it. */
    private void drawnAsOn(String text, int... acts) {
        for (int act : acts) {
            for (int seed = 0; seed < 60; seed++) {
                int behind = seed * 1103515245 + 12345;
                if ((behind >>> 8) % 8 == act) {
                    LentBoxes x = Check.made(text);
                    LentBoxes y = Check.made(text);
                    x.drawn(30, seed);
                    y.days(1);
                    y.drawn(29, behind);
                    due("act " + act + ", lying", x.now(3), y.now(3));
                    due("lent", sumLent(x), sumLent(y));
                    due("boxes", sumBoxes(x), sumBoxes(y));
                    due("waited", waited(x), waited(y));
                }
            }
        }
    }

    private static int sumLent(LentBoxes x) {
        int sum = 0;
        for (int b = 0; b < x.count(0); b++) {
            sum = 10 * sum + x.box(b, 2);
        }
        return sum;
    }

    private static int sumBoxes(LentBoxes x) {
        int sum = 0;
        for (int d = 0; d < x.count(2); d++) {
            sum = 10 * sum + x.dead(d, 2) + 1;
        }
        return sum;
    }

    private static int waited(LentBoxes x) {
        int sum = 0;
        for (int d = 0; d < x.count(2); d++) {
            sum = 1000 * sum + x.dead(d, 4);
        }
        return sum;
    }

    void terms3_new_vestry_begins_with_day_0_all_free_nobody_laid_no_sentence() {
        String text = "box a 50 9;box b 50 9;plot p 9;dead k 50 0;dead l 50 0;air 9;frost 3 9;";
        LentBoxes x = Check.made(text);
        x.lend(0, 0);
        x.lend(1, 1);
        x.lay(0, 0);
        x.days(3);
        Check.sentence(x, "laid");
        due("again", Check.vestry(x, text), 7);
        due("day", x.now(0), 0);
        due("waiting", x.now(2), 3);
        due("lying", x.now(3), 0);
        due("laid", x.now(4), 0);
        due("boxes", x.now(5), 3);
        due("plots", x.now(6), 1);
        due("frost", x.now(7), 0);
        due("sentence", x.said(NONE), NONE);
        due("lent", x.box(0, 2), 0);
        due("had", x.had(0, 0), NONE);
        due("latest", x.plot(0, 1), NONE);
        due("laid there", x.plot(0, 3), 0);
        due("waited", x.dead(1, 4), 0);
        due("lain", x.dead(1, 5), 0);
        due("his plot", x.dead(0, 3), NONE);
        due("aired", x.box(0, 5), 0);
    }

    void terms3_call_that_throws_changes_nothing() {
        LentBoxes x = Check.made("box a 50 9;plot p 0;dead k 50 0;");
        x.lend(0, 0);
        x.days(1);
        x.tag(0);
        x.feed(1, 2, 3, 4, 5);
        check.noSuch("dead(9, 0)", () -> x.dead(9, 0));
        check.noSuch("dead(0, 9)", () -> x.dead(0, 9));
        check.noSuch("wear(9, 0)", () -> x.wear(9, 0));
        check.noSuch("wear(0, 9)", () -> x.wear(0, 9));
        check.noSuch("mean(9)", () -> x.mean(9));
        due("tape", x.count(6), 20);
        due("tag", x.byteAt(10), 'a');
        due("fault", x.fault(), 0);
        due("lying", x.dead(0, 1), LYING);
        due("acts", x.undo(), 1);
        due("nobody is laid", x.now(4), 0);
    }
}
