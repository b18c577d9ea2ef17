/** Each promise of the document, by ordinary inputs, the edges that it names, and wrong inputs. */
public final class PromisesTest {
    private static final String PARISH = "box ash 60 2;box elm 70 9;box oak 80 9;plot east 5;plot west 0;"
            + "dead ann 55 0;dead bob 65 0;dead cid 75 2;dead dot 60 3;kin ann bob;kin bob cid;"
            + "asks ann elm;asks bob oak;asks cid ash;frost 4 2;air 2;";
    /** Four of one length in boxes of one length. */
    private static final String EVEN = "box a 50 3;box b 50 3;box c 50 3;box d 50 3;plot p 2;plot q 0;"
            + "dead k 50 0;dead l 50 0;dead m 50 0;dead n 50 0;";
    private static final int NONE = LentBoxes.NONE;

    private final Check check = new Check();

    public static void main(String[] args) {
        PromisesTest test = new PromisesTest();
        test.texts();
        test.looks();
        test.acts();
        test.undoing();
        test.foresight();
        test.questions();
        test.measures();
        test.draws();
        test.books();
        test.sentences();
        test.images();
        test.check.finish();
    }

    private void due(String what, long got, long want) {
        check.due(what, got, want);
    }

    private void texts() {
        promise1();
        promise2();
        promise3();
        promise4();
        promise5();
    }

    private void promise1() {
        check.promise("1 a new object");
        LentBoxes x = new LentBoxes();
        due("NONE", NONE, -1);
        for (int what = 0; what < 7; what++) {
            due("count(" + what + ")", x.count(what), what == 5 ? 1 : 0);
        }
        for (int what = 0; what < 8; what++) {
            due("now(" + what + ")", x.now(what), 0);
        }
        due("fault", x.fault(), 0);
        due("vestry of nothing", x.vestry(), 0);
        due("undo", x.undo(), NONE);
    }

    private void promise2() {
        check.promise("2 feed");
        LentBoxes x = new LentBoxes();
        for (int i = 1; i <= 47; i++) {
            due("feed " + i, x.feed(i, -1, Integer.MIN_VALUE, 0, 7), 20 * i);
        }
        due("feed beyond 940", x.feed(1, 2, 3, 4, 5), NONE);
        due("none came", x.count(6), 940);
        check.due("end(921)", x.end(921), true);
        due("feed from 921", x.feed(1, 2, 3, 4, 5), NONE);
        check.due("end(920)", x.end(920), true);
        due("feed from 920", x.feed(1, 2, 3, 4, 5), 940);
        LentBoxes y = Check.made("dead a 65 0;dead b 20 0;dead c 32 0;");
        y.feed(0x00410000, 0, 0, 0, 0);
        y.end(2);
        due("the highest byte comes first", y.who(), 1);
        y.feed(0x12345678, 0x00200014, 0, 0, 0);
        y.end(6);
        due("all four bytes come", y.who(), NONE);
        y.feed(0x00200020, 0x00200020, 0x00200020, 0, 0);
        y.end(12);
        due("six pairs", y.who(), 4);
        Check.feed(y, "dead abcdefg 12 3;dead hijklmn 45 6;");
        due("twenty bytes a call, in order", y.vestry(), 2);
        check.due("the tag", Check.tagOf(y, 1).equals("hijklmn comes"), true);
    }

    private void promise3() {
        check.promise("3 end");
        LentBoxes x = new LentBoxes();
        check.due("end(0) of nothing", x.end(0), true);
        check.due("end(1) of nothing", x.end(1), false);
        x.feed(1, 2, 3, 4, 5);
        check.due("end(-1)", x.end(-1), false);
        check.due("end(21)", x.end(21), false);
        check.due("end(MIN)", x.end(Integer.MIN_VALUE), false);
        due("all are there", x.count(6), 20);
        check.due("end(20)", x.end(20), true);
        check.due("end(7)", x.end(7), true);
        due("seven are left", x.count(6), 7);
        check.due("end(8)", x.end(8), false);
        due("behind them", x.feed(0, 0, 0, 0, 0), 27);
    }

    private void promise4() {
        check.promise("4 vestry");
        LentBoxes x = new LentBoxes();
        due("lines", Check.vestry(x, PARISH), 16);
        due("the tape is empty", x.count(6), 0);
        x.lend(0, 0);
        x.days(3);
        Check.sentence(x, "lying");
        due("a fault", Check.vestry(x, "box a 9 1;"), -1 - 6);
        due("the tape is empty then, too", x.count(6), 0);
        due("the vestry stays", x.count(0), 3);
        due("the day stays", x.now(0), 3);
        due("the sentence stays", x.said(NONE), 1);
        due("acts stay", x.undo(), 1);
        due("a new one", Check.vestry(x, EVEN), 10);
        due("day 0", x.now(0), 0);
        due("all boxes free", x.now(5), 15);
        due("all plots free", x.now(6), 3);
        due("nobody laid", x.now(4), 0);
        due("no sentence", x.said(NONE), NONE);
        due("air is 1 without", x.count(5), 1);
        due("nobody is kin any more", x.dead(0, 6), 0);
        due("nobody asks any more", x.dead(0, 7), NONE);
        due("nothing of the old one is undone", x.undo(), NONE);
        due("the empty one", x.vestry(), 0);
        due("no boxes", x.count(0), 0);
        due("as often as one likes", Check.vestry(x, PARISH) + Check.vestry(x, PARISH), 32);
        due("two kin", x.count(3), 2);
        due("one frost", x.count(4), 1);
    }

    private void promise5() {
        check.promise("5 fault");
        LentBoxes x = Check.made(PARISH);
        due("without one", x.fault(), 0);
        due("vestry: 1", Check.vestry(x, "box"), -4);
        due("fault", x.fault(), 1);
        due("another lives", x.book(2), -1000);
        due("it is left", x.fault(), 1);
        due("book: 2", Check.book(x, 0, "day 61;"), -6);
        due("fault", x.fault(), 2);
        Check.who(x, 9, 9);
        due("who() leaves it", x.fault(), 2);
        due("sentence: 3", Check.sentence(x, "in ann"), -4);
        due("fault", x.fault(), 3);
        due("a sentence without one", Check.sentence(x, "laid"), 1);
        due("fault", x.fault(), 0);
        Check.vestry(x, Check.times(2, "air 1;"));
        due("fault", x.fault(), 3);
        Check.book(x, 0, "lay ann east;");
        due("a book that is wrong has none", x.fault(), 0);
    }

    private void looks() {
        promise6();
        promise7();
        promise8();
        promise9();
        check.promise("41 count");
        LentBoxes x = Check.made(PARISH);
        int[] want = {3, 2, 4, 2, 1, 2, 0};
        for (int what = 0; what < 7; what++) {
            due("count(" + what + ")", x.count(what), want[what]);
        }
        due("count(-1)", x.count(-1), NONE);
        due("count(7)", x.count(7), NONE);
        x.feed(1, 2, 3, 4, 5);
        due("bytes", x.count(6), 20);
        due("air 0", Check.made("air 0;").count(5), 0);
    }

    private void promise6() {
        check.promise("6 box");
        LentBoxes x = Check.made(PARISH);
        due("long", x.box(1, 0), 70);
        due("lasts", x.box(0, 1), 2);
        due("not lent", x.box(0, 2), 0);
        due("nobody", x.box(0, 3), NONE);
        due("free", x.box(0, 4), 1);
        due("not aired", x.box(0, 5), 0);
        x.lend(0, 0);
        due("lent", x.box(0, 2), 1);
        due("ann lies in it", x.box(0, 3), 0);
        due("not free", x.box(0, 4), 0);
        x.lay(0, 1);
        due("nobody lies in it", x.box(0, 3), NONE);
        due("not free: aired", x.box(0, 4), 0);
        due("aired for two", x.box(0, 5), 2);
        x.days(1);
        due("aired for one", x.box(0, 5), 1);
        due("not free", x.box(0, 4), 0);
        x.days(1);
        due("aired no more", x.box(0, 5), 0);
        due("free", x.box(0, 4), 1);
        due("no such box", x.box(3, 0), NONE);
        due("no such box", x.box(-1, 0), NONE);
        due("no such what", x.box(0, 6), NONE);
        due("no such what", x.box(0, -1), NONE);
        LentBoxes y = Check.made("box a 50 1;plot p 0;dead d 50 0;air 0;");
        y.lend(0, 0);
        y.lay(0, 0);
        due("air 0: free at once", y.box(0, 4), 1);
        due("worn out, but free", y.now(5), 1);
    }

    private void promise7() {
        check.promise("7 plot");
        LentBoxes x = Check.made(EVEN);
        due("rest", x.plot(0, 0), 2);
        due("nobody", x.plot(0, 1), NONE);
        due("does not rest", x.plot(0, 2), 0);
        due("none", x.plot(0, 3), 0);
        x.lend(1, 0);
        x.lend(2, 1);
        x.lay(1, 0);
        due("latest", x.plot(0, 1), 1);
        due("rests", x.plot(0, 2), 2);
        due("one", x.plot(0, 3), 1);
        x.days(1);
        due("rests one more", x.plot(0, 2), 1);
        due("not free", x.lay(2, 0), 3);
        x.days(1);
        due("rests no more", x.plot(0, 2), 0);
        due("laid", x.lay(2, 0), 0);
        due("latest", x.plot(0, 1), 2);
        due("two", x.plot(0, 3), 2);
        due("no such plot", x.plot(2, 0), NONE);
        due("no such plot", x.plot(-1, 0), NONE);
        due("no such what", x.plot(0, 4), NONE);
        due("no such what", x.plot(0, -1), NONE);
    }

    private void promise8() {
        check.promise("8 dead");
        LentBoxes x = Check.made(PARISH);
        due("long", x.dead(2, 0), 75);
        due("waiting", x.dead(0, 1), 1);
        due("coming", x.dead(2, 1), 0);
        due("no box", x.dead(0, 2), NONE);
        due("no plot", x.dead(0, 3), NONE);
        due("kin", x.dead(1, 6), 5);
        due("kin of one", x.dead(2, 6), 2);
        due("asks", x.dead(1, 7), 2);
        due("asks for none", x.dead(3, 7), NONE);
        x.days(2);
        due("waiting from his day on", x.dead(2, 1), 1);
        due("he waited no day", x.dead(2, 4), 0);
        due("she waited", x.dead(0, 4), 2);
        x.lend(0, 0);
        due("lying", x.dead(0, 1), 2);
        due("her box", x.dead(0, 2), 0);
        x.days(1);
        due("she waits no more", x.dead(0, 4), 2);
        due("she has lain", x.dead(0, 5), 1);
        x.lay(0, 1);
        due("laid", x.dead(0, 1), 3);
        due("no box", x.dead(0, 2), NONE);
        due("her plot", x.dead(0, 3), 1);
        x.days(1);
        due("she lies no more", x.dead(0, 5), 1);
        check.noSuch("dead(4, 0)", () -> x.dead(4, 0));
        check.noSuch("dead(-1, 0)", () -> x.dead(-1, 0));
        check.noSuch("dead(0, 8)", () -> x.dead(0, 8));
        check.noSuch("dead(0, -1)", () -> x.dead(0, -1));
    }

    private void promise9() {
        check.promise("9 now");
        LentBoxes x = Check.made(PARISH);
        due("coming", x.now(1), 12);
        due("waiting", x.now(2), 3);
        x.lend(0, 0);
        x.lend(1, 1);
        due("lying", x.now(3), 3);
        x.lay(0, 0);
        due("laid", x.now(4), 1);
        due("free boxes", x.now(5), 4);
        due("free plots", x.now(6), 2);
        due("no frost", x.now(7), 0);
        x.days(3);
        due("day", x.now(0), 3);
        due("no frost on 3", x.now(7), 0);
        x.days(1);
        due("frost on 4", x.now(7), 1);
        x.days(1);
        due("frost on 5", x.now(7), 1);
        due("the plot is free", x.now(6), 3);
        x.days(1);
        due("no frost on 6", x.now(7), 0);
        due("now(8)", x.now(8), NONE);
        due("now(-1)", x.now(-1), NONE);
    }

    private void acts() {
        promise10();
        promise11();
        promise12();
        promise13();
        promise14();
    }

    private void promise10() {
        check.promise("10 lend");
        LentBoxes x = Check.made("box a 50 1;box b 60 9;plot p 0;dead k 50 0;dead l 51 0;dead m 40 1;dead n 99 0;air 0;");
        due("he comes", x.lend(2, 0), 1);
        due("longer", x.lend(1, 0), 3);
        due("as long as it", x.lend(0, 0), 0);
        due("he lies already", x.lend(0, 1), 1);
        due("not free ahead of longer", x.lend(3, 0), 2);
        x.lay(0, 0);
        due("he is laid", x.lend(0, 1), 1);
        x.days(1);
        due("longer ahead of worn", x.lend(3, 0), 3);
        due("worn", x.lend(2, 0), 4);
        due("lent once", x.box(0, 2), 1);
        due("the other box", x.lend(2, 1), 0);
        due("it was lent", x.box(1, 2), 1);
        due("no such one", x.lend(4, 0), NONE);
        due("no such one", x.lend(-1, 0), NONE);
        due("no such box", x.lend(0, 2), NONE);
        due("no such box", x.lend(0, -1), NONE);
        LentBoxes y = Check.made("box a 50 9;plot p 0;dead k 50 0;dead l 50 0;air 3;");
        y.lend(0, 0);
        y.lay(0, 0);
        y.days(2);
        due("aired", y.lend(1, 0), 2);
        y.days(1);
        due("aired no more", y.lend(1, 0), 0);
    }

    private void promise11() {
        check.promise("11 lay");
        LentBoxes x = Check.made("box a 50 9;box b 50 9;box c 50 9;plot p 2;plot q 0;"
                + "dead k 50 0;dead l 50 0;dead m 50 0;kin k l;frost 1 1;frost 2 1;");
        due("she waits", x.lay(0, 0), 1);
        x.lend(0, 0);
        x.lend(1, 1);
        x.lend(2, 2);
        due("laid", x.lay(0, 0), 0);
        due("laid already", x.lay(0, 1), 1);
        due("rests ahead of kin", x.lay(1, 0), 3);
        x.days(1);
        due("frost ahead of rest", x.lay(1, 0), 2);
        x.days(1);
        due("the second frost", x.lay(1, 1), 2);
        x.days(1);
        due("kin", x.lay(1, 0), 4);
        due("no kin", x.lay(2, 0), 0);
        x.days(2);
        due("the latest alone counts", x.lay(1, 0), 0);
        due("her plot", x.dead(1, 3), 0);
        due("no such one", x.lay(3, 0), NONE);
        due("no such one", x.lay(-1, 0), NONE);
        due("no such plot", x.lay(0, 2), NONE);
        due("no such plot", x.lay(0, -1), NONE);
    }

    private void promise12() {
        check.promise("12 swap");
        LentBoxes x = Check.made("box a 50 9;box b 60 9;box c 70 9;dead k 50 0;dead l 50 0;dead m 60 0;dead n 10 0;");
        due("nobody lies", x.swap(0, 1), 1);
        x.lend(0, 0);
        due("one lies not", x.swap(0, 1), 1);
        due("the other lies not", x.swap(1, 0), 1);
        x.lend(1, 1);
        x.lend(2, 2);
        due("they swap", x.swap(0, 1), 0);
        due("his box", x.dead(0, 2), 1);
        due("her box", x.dead(1, 2), 0);
        due("who lies in a", x.box(0, 3), 1);
        due("who lies in b", x.box(1, 3), 0);
        due("that is not lending", x.box(0, 2), 1);
        due("one longer than the other's", x.swap(2, 1), 2);
        due("whichever first", x.swap(1, 2), 2);
        due("as long as it", x.swap(2, 0), 0);
        due("alike", x.swap(0, 0), NONE);
        due("no such one", x.swap(0, 4), NONE);
        due("no such one", x.swap(-1, 0), NONE);
        due("alike, no such one", x.swap(7, 7), NONE);
    }

    private void promise13() {
        check.promise("13 mend");
        LentBoxes x = Check.made("box a 50 1;plot p 0;dead k 50 0;dead l 50 0;air 1;");
        due("not lent", x.mend(0), 1);
        x.lend(0, 0);
        due("he lies in it", x.mend(0), 2);
        x.lay(0, 0);
        due("aired, and mended", x.mend(0), 0);
        due("never lent", x.box(0, 2), 0);
        due("aired yet", x.box(0, 5), 1);
        due("not again", x.mend(0), 1);
        x.days(1);
        due("it can be lent again", x.lend(1, 0), 0);
        due("no such box", x.mend(1), NONE);
        due("no such box", x.mend(-1), NONE);
    }

    private void promise14() {
        check.promise("14 days");
        LentBoxes x = Check.made("dead k 50 99;dead l 50 60;");
        due("days(0)", x.days(0), NONE);
        due("days(61)", x.days(61), NONE);
        due("days(-1)", x.days(-1), NONE);
        due("days(60)", x.days(60), 60);
        due("he comes on his day", x.now(2), 2);
        due("38", x.days(38), 38);
        due("the other not yet", x.now(1), 1);
        due("1", x.days(1), 1);
        due("now he does", x.now(2), 3);
        for (int i = 0; i < 5; i++) {
            due("60 more", x.days(60), 60);
        }
        due("one is left", x.days(2), 1);
        due("day 400", x.now(0), 400);
        due("all are over", x.days(1), 0);
        due("waited", x.dead(0, 4), 301);
        due("only days above 0 are undone", x.undo(), 7);
        due("day 399", x.now(0), 399);
    }

    private void undoing() {
        check.promise("15 undo");
        LentBoxes x = Check.made(PARISH);
        due("none", x.undo(), NONE);
        x.lend(2, 0);
        x.lay(0, 0);
        x.swap(0, 1);
        x.mend(0);
        x.days(0);
        due("nothing was done", x.undo(), NONE);
        x.lend(0, 0);
        x.lend(1, 1);
        x.lay(0, 0);
        x.mend(0);
        x.days(2);
        due("days", x.undo(), 4);
        due("day 0", x.now(0), 0);
        due("mend", x.undo(), 3);
        due("lent", x.box(0, 2), 1);
        due("lay", x.undo(), 2);
        due("lying", x.now(3), 3);
        due("the plot", x.plot(0, 3), 0);
        due("lend", x.undo(), 1);
        due("not lent", x.box(1, 2), 0);
        due("nobody had it", x.had(1, 0), NONE);
        due("lend", x.undo(), 0);
        due("all wait", x.now(2), 3);
        due("none", x.undo(), NONE);
        for (int i = 1; i <= 9; i++) {
            x.days(1);
        }
        for (int i = 7; i >= 0; i--) {
            due("eight at most", x.undo(), i);
        }
        due("the ninth is not kept", x.undo(), NONE);
        due("day 1", x.now(0), 1);
        undoingMore();
    }

    private void undoingMore() {
        LentBoxes x = Check.made(EVEN);
        x.lend(0, 0);
        x.lend(1, 1);
        x.swap(0, 1);
        due("drawn", x.drawn(5, 3), 5);
        Check.book(x, 1, "day 1;day 1;");
        Check.book(x, 0, "day 1;");
        Check.book(x, 1, "");
        Check.book(x, 1, "mend d;day 1;");
        Check.sentence(x, "lying");
        due("the book", x.undo(), 4);
        due("day 5", x.now(0), 5);
        due("the sentence stays", x.said(NONE) >= 0 ? 1 : 0, 1);
        due("drawn", x.undo(), 3);
        due("day 0", x.now(0), 0);
        due("swap", x.undo(), 2);
        due("back in his box", x.dead(0, 2), 0);
        undoingEach();
        due("a book of which a line was lived", Check.book(x, 1, "day 1;mend d;"), 1);
        due("it is undone", x.undo(), 2);
        due("day 0", x.now(0), 0);
    }

    /** odds() goes ahead of each act, so that nothing of its days is mixed into what is kept. */
    private void undoingEach() {
        LentBoxes x = Check.made(EVEN);
        x.days(1);
        for (int act = 0; act < 7; act++) {
            x.odds(0, 30, 5);
            int done = act == 0 ? x.lend(0, 0) : act == 1 ? x.lend(1, 1) : act == 2 ? x.swap(0, 1) : act == 3 ? x.lay(0, 0)
                    : act == 4 ? x.mend(1) : act == 5 ? x.days(2) - 2 : x.drawn(2, 9) - 2;
            due("act " + act, done, 0);
        }
        int[] day = {3, 1, 1, 1, 1, 1, 1};
        int[] lying = {0, 0, 0, 3, 3, 1, 0};
        due("day", x.now(0), 5);
        for (int i = 0; i < 7; i++) {
            due("more", x.undo(), 7 - i);
            due("day ahead of act " + (6 - i), x.now(0), day[i]);
            if (i > 2) {
                due("lying ahead of act " + (6 - i), x.now(3), lying[i]);
            }
        }
    }

    private void foresight() {
        promise16and17();
        promise18and19();
        promise20();
        promise21();
    }

    private void promise16and17() {
        check.promise("16 match, 17 matchOf");
        LentBoxes x = Check.made("box a 60 1;box b 50 9;box c 90 9;dead k 50 0;dead l 40 0;dead m 60 0;dead n 95 0;dead o 10 5;");
        due("ahead of any", x.matchOf(0), NONE);
        due("three", x.match(), 3);
        due("k takes the least that leaves three", x.matchOf(0), 0);
        due("l", x.matchOf(1), 1);
        due("m", x.matchOf(2), 2);
        due("n is too long", x.matchOf(3), NONE);
        due("o comes", x.matchOf(4), NONE);
        due("no such one", x.matchOf(5), NONE);
        due("no such one", x.matchOf(-1), NONE);
        due("no such one", x.matchOf(12), NONE);
        x.lend(0, 2);
        due("by the latest match", x.matchOf(0), 0);
        due("two are left", x.match(), 2);
        due("she lies", x.matchOf(0), NONE);
        due("l gives a to m", x.matchOf(1), 1);
        due("m", x.matchOf(2), 0);
        Check.vestry(x, "box a 60 1;");
        due("it stays", x.matchOf(1), 1);
        due("none", x.match(), 0);
        due("none now", x.matchOf(1), NONE);
        LentBoxes y = Check.made("box a 50 1;dead k 50 0;dead l 50 0;plot p 0;air 0;");
        due("one", y.match(), 1);
        due("a box is ahead of none", y.matchOf(0), 0);
        due("none for the other", y.matchOf(1), NONE);
        y.lend(0, 0);
        y.lay(0, 0);
        due("worn", y.match(), 0);
    }

    private void promise18and19() {
        check.promise("18 soon, 19 soonIn");
        LentBoxes x = Check.made("box a 50 9;box b 50 9;box c 50 9;plot p 3;plot q 5;dead k 50 0;dead l 50 0;dead m 50 0;"
                + "dead n 50 0;kin k l;frost 3 2;frost 4 2;");
        due("she waits", x.soon(0), NONE);
        due("ahead of any", x.soonIn(), NONE);
        x.lend(0, 0);
        x.lend(1, 1);
        x.lend(2, 2);
        due("now", x.soon(0), 0);
        due("the least", x.soonIn(), 0);
        x.lay(0, 0);
        due("l: not by kin", x.soon(1), 0);
        due("q", x.soonIn(), 1);
        x.lay(2, 1);
        due("q rests 5, then frost", x.soon(1), 6);
        due("q", x.soonIn(), 1);
        due("laid", x.soon(0), NONE);
        due("no such one", x.soon(4), NONE);
        due("no such one", x.soon(-1), NONE);
        due("the latest that was not NONE", x.soonIn(), 1);
        x.days(5);
        due("frost on 5 yet", x.soon(1), 1);
        x.undo();
        x.days(6);
        due("on that day", x.soon(1), 0);
        due("and it can be", x.lay(1, 1), 0);
        LentBoxes y = Check.made("box a 50 9;box b 50 9;plot p 0;dead k 50 0;dead l 50 0;kin k l;");
        y.lend(0, 0);
        y.lend(1, 1);
        y.lay(0, 0);
        due("never by kin", y.soon(1), NONE);
        LentBoxes z = Check.made("box a 50 9;box b 50 9;plot p 60;dead k 50 0;dead l 50 0;frost 199 60;");
        for (int i = 0; i < 6; i++) {
            z.days(60);
        }
        z.days(35);
        z.lend(0, 0);
        z.lend(1, 1);
        z.lay(0, 0);
        due("day 400 is no matter", z.soon(1), 60);
    }

    private void promise20() {
        check.promise("20 crowd");
        LentBoxes x = Check.made(PARISH);
        due("now", x.crowd(0), 2);
        due("1", x.crowd(1), 2);
        due("2", x.crowd(2), 3);
        due("99", x.crowd(99), 4);
        due("-1", x.crowd(-1), NONE);
        due("100", x.crowd(100), NONE);
        x.lend(0, 0);
        due("one lies", x.crowd(3), 3);
    }

    private void promise21() {
        check.promise("21 need");
        LentBoxes x = Check.made(PARISH);
        due("need(0, 1)", x.need(0, 1), 2);
        due("need(2, 1): two are aired on day 2", x.need(2, 1), 3);
        due("need(3, 1)", x.need(3, 1), 3);
        due("need(3, 2)", x.need(3, 2), 4);
        due("need(99, 60)", x.need(99, 60), 4);
        due("n -1", x.need(-1, 1), NONE);
        due("n 100", x.need(100, 1), NONE);
        due("m 0", x.need(0, 0), NONE);
        due("m 61", x.need(0, 61), NONE);
        x.lend(0, 0);
        x.lay(0, 0);
        due("who is laid needs none", x.need(3, 2), 3);
        x.lend(1, 1);
        due("who lies does", x.need(0, 1), 1);
        due("none", Check.made("air 9;dead k 10 99;").need(98, 60), 0);
        due("the last day", Check.made("air 9;dead k 10 99;").need(99, 60), 1);
        LentBoxes y = Check.made("air 0;dead k 10 0;dead l 10 1;dead m 10 2;");
        due("one after the other", y.need(9, 1), 1);
        due("two at once", y.need(9, 2), 2);
    }

    private void questions() {
        promise22and23();
        promise24and25();
        promise26();
        promise27();
    }

    private void promise22and23() {
        check.promise("22 ring, 23 ringAt");
        LentBoxes x = Check.made("box a 50 9;box b 50 9;box c 50 9;box d 50 9;dead k 50 0;dead l 50 0;dead m 50 0;"
                + "dead n 40 0;dead o 40 9;asks k b;asks l c;asks m a;asks n d;asks o a;");
        due("waits", x.ring(0), NONE);
        due("ahead of any", x.ringAt(0), NONE);
        x.lend(0, 0);
        x.lend(1, 1);
        due("nobody lies in c", x.ring(0), NONE);
        x.lend(2, 2);
        x.lend(3, 3);
        due("three", x.ring(1), 3);
        due("first that one", x.ringAt(0), 1);
        due("then", x.ringAt(1), 2);
        due("then", x.ringAt(2), 0);
        due("none such", x.ringAt(3), NONE);
        due("none such", x.ringAt(-1), NONE);
        due("he lies in it", x.ring(3), 1);
        due("he", x.ringAt(0), 3);
        due("only he", x.ringAt(1), NONE);
        due("no such one", x.ring(5), NONE);
        due("no such one", x.ring(-1), NONE);
        due("comes", x.ring(4), NONE);
        due("the latest that was not NONE", x.ringAt(0), 3);
        x.swap(3, 2);
        due("n is in c, and asks for d, where m is: four", x.ring(1), 4);
        int[] four = {1, 3, 2, 0};
        for (int k = 0; k < 4; k++) {
            due("the " + k + "-th", x.ringAt(k), four[k]);
        }
        LentBoxes y = Check.made("box a 50 9;box b 60 9;box c 60 9;dead k 50 0;dead l 60 0;dead m 50 0;"
                + "asks k b;asks l a;asks m b;");
        y.lend(0, 0);
        y.lend(1, 1);
        y.lend(2, 2);
        due("l is too long for a", y.ring(0), NONE);
        LentBoxes z = Check.made("box a 50 9;box b 50 9;dead k 50 0;dead l 50 0;asks k b;");
        z.lend(0, 0);
        z.lend(1, 1);
        due("l does not ask", z.ring(0), NONE);
        LentBoxes u = Check.made("box a 50 9;box b 50 9;box c 50 9;dead k 50 0;dead l 50 0;dead m 50 0;"
                + "asks k b;asks l c;asks m b;");
        u.lend(0, 0);
        u.lend(1, 1);
        u.lend(2, 2);
        due("it goes round without the first", u.ring(0), NONE);
        due("two", u.ring(2), 2);
    }

    private void promise24and25() {
        check.promise("24 who, 25 ask");
        LentBoxes x = Check.made("box a 60 9;box b 60 9;plot p 0;plot q 0;dead k 50 0;dead l 50 0;dead m 50 1;dead n 60 2;");
        due("ahead of any", x.ask(), NONE);
        due("no pair", Check.who(x), NONE);
        due("half a pair", Check.who(x, 0), NONE);
        due("a pair and a half", Check.who(x, 0, 50, 1), NONE);
        due("another what", Check.who(x, 4, 50), NONE);
        due("another what behind", Check.who(x, 0, 50, 255, 0), NONE);
        due("seven pairs", Check.who(x, 0, 50, 0, 50, 0, 50, 0, 50, 0, 50, 0, 50, 0, 50), NONE);
        due("six pairs", Check.who(x, 0, 50, 0, 50, 0, 50, 0, 50, 0, 50, 0, 50), 7);
        due("the tape is empty", x.count(6), 0);
        due("all alike: the first", x.ask(), 0);
        due("nobody", Check.who(x, 0, 51), 0);
        due("two that can't both be", Check.who(x, 0, 50, 0, 60), 0);
        due("in no box", Check.who(x, 2, 255), 15);
        due("long is the best question", x.ask(), 0);
        x.days(1);
        x.lend(0, 1);
        x.days(1);
        due("long, waited", Check.who(x, 0, 50, 1, 1), 5);
        due("the box tells them apart", x.ask(), 2);
        due("in b", Check.who(x, 2, 1), 1);
        due("in a", Check.who(x, 2, 0), 0);
        due("no such box", Check.who(x, 2, 9), 0);
        x.lay(0, 1);
        due("in q", Check.who(x, 3, 1), 1);
        due("in none", Check.who(x, 3, 255, 0, 50), 6);
        due("waited tells them apart", x.ask(), 1);
        due("a wrong one leaves it", Check.who(x, 5, 5), NONE);
        due("and nobody does", Check.who(x, 0, 99), 0);
        due("by the latest above 0", x.ask(), 1);
        x.lend(2, 0);
        x.lay(2, 0);
        due("waited one", Check.who(x, 1, 1), 5);
        due("the plot", x.ask(), 3);
        x.vestry();
        due("it stays", x.ask(), 3);
        LentBoxes y = Check.made(Check.many(12, "dead #x 50 0;"));
        due("twelve", Check.who(y, 0, 50), 4095);
        due("all alike in all four", y.ask(), 0);
    }

    private void promise26() {
        check.promise("26 near");
        LentBoxes x = Check.made(Check.many(12, "dead #x 50 0;") + "kin ax bx;kin bx cx;kin cx dx;kin dx ex;kin ex fx;"
                + "kin fx gx;kin gx hx;kin hx ix;kin ix jx;kin jx kx;kin lx kx;kin ax dx;");
        due("alike", x.near(3, 3), 0);
        due("kin", x.near(1, 0), 1);
        due("by others", x.near(0, 2), 2);
        due("the shortest way", x.near(0, 4), 2);
        due("far", x.near(1, 11), 10);
        due("back", x.near(11, 1), 10);
        due("no such one", x.near(12, 0), NONE);
        due("no such one", x.near(0, -1), NONE);
        due("no such one, alike", x.near(12, 12), NONE);
        due("none comes there", Check.made(PARISH).near(0, 3), NONE);
        LentBoxes y = Check.made(Check.many(12, "dead #x 50 0;") + "kin ax bx;kin bx cx;kin cx dx;kin dx ex;kin ex fx;"
                + "kin fx gx;kin gx hx;kin hx ix;kin ix jx;kin jx kx;kin lx kx;");
        due("from end to end", y.near(0, 11), 11);
    }

    private void promise27() {
        check.promise("27 had");
        LentBoxes x = Check.made("box a 50 9;box b 50 9;plot p 0;air 0;" + Check.many(6, "dead #x 50 0;"));
        due("nobody", x.had(0, 0), NONE);
        for (int d = 0; d < 5; d++) {
            x.lend(d, 0);
            x.lay(d, 0);
        }
        for (int k = 0; k < 4; k++) {
            due("the latest first", x.had(0, k), 4 - k);
        }
        due("four are known", x.had(0, 4), NONE);
        due("k -1", x.had(0, -1), NONE);
        due("the other box", x.had(1, 0), NONE);
        due("no such box", x.had(2, 0), NONE);
        due("no such box", x.had(-1, 0), NONE);
        x.mend(0);
        due("mending leaves it", x.had(0, 0), 4);
        x.lend(5, 1);
        due("the other box's are its own", x.had(0, 4), NONE);
        due("one had it", x.had(1, 0), 5);
        due("the last of nine boxes", Check.made(Check.many(9, "box #x 50 9;")).had(8, 4), NONE);
        LentBoxes y = Check.made(EVEN);
        y.lend(0, 0);
        y.lend(1, 1);
        y.swap(0, 1);
        due("who swapped is not told", y.had(0, 0), 0);
        due("nor behind", y.had(0, 1), NONE);
        due("nor in the other", y.had(1, 0), 1);
    }

    private void measures() {
        check.promise("28 wear");
        LentBoxes x = Check.made("box a 50 6;plot p 0;air 0;" + Check.many(6, "dead #x 50 0;"));
        int[] above = {0, 1, 1, 1, 2, 5, 1};
        int[] below = {1, 6, 3, 2, 3, 6, 1};
        for (int n = 0; n <= 6; n++) {
            due("above, lent " + n, x.wear(0, 0), above[n]);
            due("below, lent " + n, x.wear(0, 1), below[n]);
            if (n < 6) {
                x.lend(n, 0);
                x.lay(n, 0);
            }
        }
        check.noSuch("wear(1, 0)", () -> x.wear(1, 0));
        check.noSuch("wear(-1, 0)", () -> x.wear(-1, 0));
        check.noSuch("wear(0, 2)", () -> x.wear(0, 2));
        check.noSuch("wear(0, -1)", () -> x.wear(0, -1));
        meanAndLongest();
        tags();
    }

    private void meanAndLongest() {
        check.promise("29 mean");
        LentBoxes x = Check.made("dead k 50 1;dead l 50 0;dead m 50 0;dead n 50 9;box a 90 9;");
        due("0 above", x.mean(0), 0);
        due("1 below", x.mean(1), 1);
        check.promise("30 longest");
        due("nobody waited", x.longest(), NONE);
        LentBoxes y = Check.made("dead k 50 0;dead l 50 0;");
        y.days(1);
        due("one day", y.longest(), 0);
        x.days(2);
        due("the first of like ones", x.longest(), 1);
        check.promise("29 mean");
        due("5 by 4", x.mean(0), 5);
        due("4", x.mean(1), 4);
        x.lend(2, 0);
        x.days(1);
        due("7 by 4", x.mean(0), 7);
        x.days(3);
        due("13 by 4", x.mean(0), 13);
        x.lend(1, 0);
        x.days(1);
        due("15 by 4", x.mean(0), 15);
        x.days(2);
        due("19 by 4", x.mean(0), 19);
        x.days(1);
        due("22 by 4 is 11 by 2", x.mean(0), 11);
        due("below", x.mean(1), 2);
        check.noSuch("mean(2)", () -> x.mean(2));
        check.noSuch("mean(-1)", () -> x.mean(-1));
        check.noSuch("no dead", () -> new LentBoxes().mean(0));
        check.promise("30 longest");
        due("longest", x.longest(), 1);
        due("none at all", new LentBoxes().longest(), NONE);
    }

    private void tags() {
        check.promise("31 tag, 32 byteAt");
        LentBoxes x = Check.made("box abcdefg 50 9;plot hijklmn 0;dead opqrstu 50 1;");
        due("ahead of any", x.byteAt(0), NONE);
        check.due("comes", Check.tagOf(x, 0).equals("opqrstu comes"), true);
        x.days(1);
        check.due("waits", Check.tagOf(x, 0).equals("opqrstu waits"), true);
        x.lend(0, 0);
        check.due("lies", Check.tagOf(x, 0).equals("opqrstu lies in abcdefg"), true);
        x.lay(0, 0);
        check.due("laid", Check.tagOf(x, 0).equals("opqrstu laid in hijklmn"), true);
        due("length", x.tag(0), 23);
        due("no such one", x.tag(1), NONE);
        due("no such one", x.tag(-1), NONE);
        due("the latest tag", x.byteAt(22), 'n');
        due("none such", x.byteAt(23), NONE);
        due("none such", x.byteAt(-1), NONE);
        Check.vestry(x, "dead b 50 9;");
        due("it stays", x.byteAt(22), 'n');
        due("a shorter one", x.tag(0), 7);
        due("its end", x.byteAt(7), NONE);
    }

    private void draws() {
        check.promise("33 drawn");
        LentBoxes x = Check.made("box a 50 9;box b 50 9;box c 50 9;plot p 0;plot q 0;" + Check.many(4, "dead #x 50 0;") + "dead ex 50 1;air 0;");
        due("n 0", x.drawn(0, 1), NONE);
        due("n 61", x.drawn(61, 1), NONE);
        for (int act = 0; act < 3; act++) {
            due("one day", x.drawn(1, Check.seedFor(8, act, 5, act, 3, act)), 1);
            due("he is lent it", x.dead(act, 2), act);
            due("the act is ahead of the day", x.dead(act, 5), 1);
        }
        due("day 3", x.now(0), 3);
        for (int act = 3; act < 5; act++) {
            x.drawn(1, Check.seedFor(8, act, 5, act - 3, 2, act - 3));
            due("he is laid there", x.dead(act - 3, 3), act - 3);
        }
        x.drawn(1, Check.seedFor(8, 5, 3, 1));
        due("it is mended", x.box(1, 2), 0);
        x.drawn(1, Check.seedFor(8, 0, 5, 3, 3, 0));
        x.drawn(1, Check.seedFor(8, 6, 5, 2, 5, 3));
        due("they swap", x.dead(2, 2), 0);
        x.drawn(1, Check.seedFor(8, 6, 5, 2, 5, 2));
        due("alike: nothing", x.dead(2, 2), 0);
        due("7: nothing", x.drawn(1, Check.seedFor(8, 7)), 1);
        due("what can't be is not done", x.drawn(1, Check.seedFor(8, 0, 5, 0, 3, 1)), 1);
        due("she is laid yet", x.dead(0, 1), 3);
        due("two days", x.drawn(2, Check.seedFor(8, 7, 8, 5, 3, 2)), 2);
        due("c is not mended: one lies in it", x.box(2, 2), 1);
        drawnWithoutSome();
        drawnToTheEnd();
        odds();
    }

    private void drawnWithoutSome() {
        LentBoxes x = Check.made("box a 50 9;plot p 0;");
        LentBoxes y = Check.made("dead k 50 0;dead l 50 0;box a 50 9;box b 50 9;box c 50 9;");
        for (int seed = -20; seed < 20; seed++) {
            due("no dead", x.drawn(1, seed), 1);
            due("no plots", y.drawn(1, seed), 1);
        }
        due("nothing was done", x.box(0, 2), 0);
        // Without plots a day of laying draws once, so what is drawn behind it is the next day's.
        LentBoxes z = Check.made("dead k 50 0;dead l 50 0;box a 50 9;box b 50 9;box c 50 9;");
        z.drawn(2, Check.seedFor(8, 3, 8, 2, 2, 1, 3, 2));
        due("the second day's draw", z.dead(1, 2), 2);
        LentBoxes one = Check.made("box a 50 9;plot p 0;dead k 50 0;");
        one.drawn(1, Check.seedFor(8, 1, 1, 0, 1, 0));
        due("one and one box", one.dead(0, 1), 2);
        one.drawn(1, Check.seedFor(8, 6, 1, 0, 1, 0));
        one.drawn(1, Check.seedFor(8, 4, 1, 0, 1, 0));
        due("one plot", one.dead(0, 1), 3);
        one.drawn(1, Check.seedFor(8, 5, 1, 0));
        due("one box is mended", one.box(0, 2), 0);
        LentBoxes u = Check.made("plot p 0;dead k 50 0;");
        due("no boxes", u.drawn(60, 77), 60);
        due("nobody lies", u.now(3), 0);
    }

    private void drawnToTheEnd() {
        LentBoxes x = Check.made("box a 50 9;dead k 50 0;");
        for (int i = 0; i < 6; i++) {
            x.days(60);
        }
        x.days(38);
        due("two are left", x.drawn(60, Check.seedFor(8, 7, 8, 7, 8, 0, 1, 0, 1, 0)), 2);
        due("nothing is done on no day", x.dead(0, 1), 1);
        due("none", x.drawn(5, Check.seedFor(8, 0, 1, 0, 1, 0)), 0);
        due("nor then", x.dead(0, 1), 1);
        due("only above 0 is undone", x.undo(), 7);
        due("day 398", x.now(0), 398);
        due("it can be lent on day 400, too", x.drawn(2, Check.seedFor(8, 7, 8, 7)) + x.lend(0, 0), 2);
    }

    private void odds() {
        check.promise("34 odds");
        LentBoxes x = Check.made("box a 50 9;plot p 0;dead k 50 0;dead l 60 0;");
        for (int seed : new int[] {0, 12345, -9, Integer.MAX_VALUE - 3, Integer.MIN_VALUE}) {
            int want = 0;
            for (int i = 0; i < 30; i++) {
                LentBoxes y = Check.made("box a 50 9;plot p 0;dead k 50 0;dead l 60 0;");
                y.drawn(20, seed + i);
                want += y.dead(0, 1) == 3 ? 1 : 0;
            }
            due("seed " + seed, x.odds(0, 30, seed), want);
        }
        due("too long for all", x.odds(1, 30, 5), 0);
        due("all stays", x.now(0), 0);
        due("nothing to undo", x.undo(), NONE);
        due("n 0", x.odds(0, 0, 5), NONE);
        due("n 1", x.odds(1, 1, 5), 0);
        due("n 31", x.odds(0, 31, 5), NONE);
        due("no such one", x.odds(2, 5, 5), NONE);
        due("no such one", x.odds(-1, 5, 5), NONE);
        x.lend(0, 0);
        x.lay(0, 0);
        due("laid already", x.odds(0, 7, 5), 7);
    }

    private void books() {
        check.promise("35 book, 36 told");
        LentBoxes x = Check.made(PARISH);
        due("ahead of any", x.told(0), NONE);
        Check.feed(x, "day 1;");
        due("lives 2", x.book(2), -1000);
        due("lives -1", x.book(-1), -1000);
        due("the tape stays", x.count(6), 6);
        due("ahead of any yet", x.told(1), NONE);
        due("judged", x.book(0), NONE);
        due("the tape is empty", x.count(6), 0);
        due("all stays", x.now(0), 0);
        toldIs(x, 0, 1, 1, 0);
        due("wrong", Check.book(x, 0, "lend ann ash;day 2;lay ann west;lend ann elm;day 9;"), 3);
        toldIs(x, 1, 3, 2, 1);
        due("all stays", x.dead(0, 1), 1);
        due("a fault", Check.book(x, 1, "lend ann ash;lay ann oak;"), -2 - 21);
        due("the tape is empty", x.count(6), 0);
        toldIs(x, 1, 3, 2, 1);
        due("nothing was lived", x.dead(0, 1), 1);
        due("lived as far", Check.book(x, 1, "lend ann ash;day 2;lay ann west;lend ann elm;day 9;"), 3);
        due("laid", x.dead(0, 1), 3);
        due("day 2", x.now(0), 2);
        due("undone at once", x.undo(), 0);
        due("as it was", x.dead(0, 1) + x.now(0), 1);
        due("an empty one", Check.book(x, 1, " \n"), NONE);
        toldIs(x, 0, 0, 0, 0);
        due("nothing to undo", x.undo(), NONE);
        due("told(4)", x.told(4), NONE);
        due("told(-1)", x.told(-1), NONE);
        booksWrong();
    }

    private void toldIs(LentBoxes x, int why, int lines, int day, int laid) {
        due("told why", x.told(0), why);
        due("told lines", x.told(1), lines);
        due("told day", x.told(2), day);
        due("told laid", x.told(3), laid);
    }

    private void booksWrong() {
        String[] books = {"lend cid oak;", "lend ann elm;lend bob elm;", "lend bob ash;",
            "lend ann ash;lay ann east;day 3;lend dot ash;lay dot west;day 3;day 1;mend ash;lend dot ash;",
            "lay ann east;", "lend ann ash;day 4;lay ann east;", "lend ann ash;lend bob elm;lay ann east;lay bob east;",
            "lend ann ash;lend bob elm;lay ann west;lay bob west;", "swap ann bob;",
            "lend ann ash;lend bob elm;swap ann bob;", "mend oak;", "lend bob oak;mend oak;",
            "day 60;day 60;day 60;day 60;day 60;day 60;day 40;day 1;"};
        int[] lines = {0, 1, 0, 8, 0, 2, 3, 3, 0, 2, 0, 1, 7};
        int[] whys = {1, 2, 3, 1, 11, 12, 13, 14, 21, 22, 31, 32, 41};
        for (int i = 0; i < books.length; i++) {
            LentBoxes x = Check.made(PARISH);
            due(books[i], Check.book(x, 0, books[i]), lines[i]);
            due("why: " + books[i], x.told(0), whys[i]);
            due("lines: " + books[i], x.told(1), lines[i]);
        }
        LentBoxes x = Check.made("box a 50 1;plot p 0;air 0;dead k 50 0;dead l 50 0;");
        due("worn", Check.book(x, 1, "lend k a;lay k p;lend l a;"), 2);
        due("4", x.told(0), 4);
        due("mended first", Check.book(x, 1, "mend a;lend l a;"), NONE);
        due("fewer days are left: none goes", Check.book(x, 1, "day 60;day 60;day 60;day 60;day 60;day 60;day 39;day 2;"), 7);
        due("day 399", x.now(0), 399);
        due("the last", Check.book(x, 1, "day 1;"), NONE);
        due("day 400", x.told(2), 400);
    }

    private void sentences() {
        check.promise("37 sentence");
        LentBoxes x = Check.made(PARISH);
        due("no sentence", x.said(NONE), NONE);
        due("ones", Check.sentence(x, "not (coming or long > 60) and kin bob"), 5);
        due("the tape is empty", x.count(6), 0);
        check.promise("38 said");
        saidIs(x, 1);
        due("a fault", Check.sentence(x, "not ("), -1 - 5);
        saidIs(x, 1);
        due("k -2", x.said(-2), NONE);
        due("k MAX", x.said(Integer.MAX_VALUE), NONE);
        x.lend(1, 1);
        x.days(2);
        x.lay(1, 0);
        x.lend(0, 1);
        x.days(2);
        x.lend(0, 1);
        x.days(1);
        String[] texts = {"coming", "waiting", "lying", "laid", "in elm", "in ash", "kin bob", "kin dot", "long = 60",
            "long < 60", "long > 60", "waited > 3", "waited = 4", "waited < 3", "lain = 2", "lain > 0", "number > 1",
            "number = 0", "number < 1", "not waiting", "not not lying", "coming or lying and laid",
            "(waiting or lying) and kin bob", "lying or waiting and kin bob", "not lying and not laid", "not (lying or laid)",
            "number<2 or\nnumber=3", "waiting and long>60 or laid", "long = 999", "not long = 999"};
        int[] want = {0, 12, 1, 2, 1, 0, 5, 0, 8, 1, 6, 1, 1, 10, 2, 3, 12, 1, 1, 3, 1, 0, 5, 5, 12, 12, 11, 6, 0, 15};
        for (int i = 0; i < texts.length; i++) {
            check.promise("38 said: " + texts[i]);
            due("fault", Check.sentence(x, texts[i]) < 1 ? 1 : 0, 0);
            saidIs(x, want[i]);
        }
    }

    private void saidIs(LentBoxes x, int bits) {
        due("how many", x.said(NONE), Integer.bitCount(bits));
        int k = 0;
        for (int d = 0; d < 12; d++) {
            if ((bits >> d & 1) != 0) {
                due("the " + k + "-th", x.said(k), d);
                k++;
            }
        }
        due("none such", x.said(k), NONE);
    }

    private void images() {
        check.promise("39 image, 40 restore");
        LentBoxes x = Check.made(PARISH);
        check.due("nothing is kept", x.restore(0), false);
        check.due("image(2)", x.image(2), false);
        check.due("image(-1)", x.image(-1), false);
        x.lend(0, 0);
        x.days(2);
        Check.sentence(x, "lying");
        check.due("image(1)", x.image(1), true);
        check.due("nothing in 0", x.restore(0), false);
        due("acts can be undone yet", x.undo(), 1);
        x.match();
        x.soon(0);
        Check.vestry(x, EVEN);
        check.due("image(0)", x.image(0), true);
        x.lend(3, 3);
        Check.sentence(x, "box");
        x.tag(3);
        Check.book(x, 0, "day 3;");
        x.feed(1, 2, 3, 4, 5);
        check.due("restore(1)", x.restore(1), true);
        due("the vestry", x.count(0), 3);
        due("the day", x.now(0), 2);
        due("she lies", x.dead(0, 2), 0);
        due("who had it", x.had(0, 0), 0);
        due("the sentence", x.said(0), 0);
        due("nothing can be undone", x.undo(), NONE);
        due("the tape stays", x.count(6), 20);
        due("the fault stays", x.fault(), 0);
        due("the match stays", x.matchOf(1), 1);
        due("the tag stays", x.byteAt(0), 'n');
        due("what was told stays", x.told(2), 3);
        due("soonIn stays", x.soonIn(), 0);
        x.days(5);
        check.due("again", x.restore(1), true);
        due("the image did not change", x.now(0), 2);
        check.due("restore(0)", x.restore(0), true);
        due("no sentence", x.said(NONE), NONE);
        due("all wait", x.now(2), 15);
        check.due("restore(2)", x.restore(2), false);
        check.due("restore(-1)", x.restore(-1), false);
        x.lend(0, 0);
        x.restore(5);
        due("a false one forgets nothing", x.undo(), 0);
    }
}
