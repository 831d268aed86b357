/** Promises 1 to 12: a new object, the input buffer, descriptions and what they describe. */
public final class LoadTest {
    private static final String START = "stations 2 0;product ";

    public static void main(String[] args) {
        newObject();
        appendByte();
        load();
        loadStartsAnew();
        errorLeavesAll();
        rightTexts();
        shorterText();
        lastOneCounts();
        firstStatement();
        settings();
        longNumbers();
        products();
        tooManySteps();
        tooManyProducts();
        orders();
        tooManyOrders();
        tooMuchDrumWork();
        firstErrorEnds();
        counts();
        steps();
        works();
        Check.end();
    }

    private static void newObject() {
        DrumRope x = new DrumRope();
        Check.is(x.stationCount(), 1);
        Check.is(x.productCount(), 0);
        Check.is(x.orderCount(), 0);
        Check.is(x.now(), 0);
        Check.is(x.rope(), 100);
        Check.is(x.setRule(0), 0);
        Check.is(x.loadError(), 0);
        Check.is(x.loadStatement(), DrumRope.NONE);
        Check.is(x.workingOn(0), DrumRope.NONE);
        Check.index(() -> x.workingOn(1));
        Check.is(x.restoreSnapshot(0), DrumRope.NONE);
        Check.is(x.restoreSnapshot(1), DrumRope.NONE);
        Check.is(x.appendByte('s'), 1);
    }

    private static void appendByte() {
        DrumRope x = new DrumRope();
        Check.is(x.appendByte(0), 1);
        Check.is(x.appendByte(255), 2);
        Check.argument(() -> x.appendByte(-1));
        Check.argument(() -> x.appendByte(256));
        Check.argument(() -> x.appendByte(Integer.MIN_VALUE));
        Check.argument(() -> x.appendByte(Integer.MAX_VALUE));
        Check.is(x.appendByte(7), 3);
        DrumRope full = new DrumRope();
        Check.type(full, "stations 1 0;rope 7" + " ".repeat(680));
        Check.is(full.appendByte(' '), 700);
        Check.is(full.appendByte('x'), DrumRope.FULL);
        Check.is(full.appendByte('x'), DrumRope.FULL);
        Check.argument(() -> full.appendByte(256));
        Check.is(full.load(), 0);
        Check.is(full.rope(), 7);
        Check.is(full.appendByte('x'), 1);
    }

    private static void load() {
        DrumRope x = new DrumRope();
        Check.is(Check.load(x, "stations 3 2;product 2 1;order 0 1 5;order 0 2 6"), 2);
        Check.is(x.loadError(), 0);
        Check.is(x.loadStatement(), DrumRope.NONE);
        Check.is(x.appendByte(32), 1);
        Check.is(x.load(), -101);
        Check.is(x.loadError(), 1);
        Check.is(x.loadStatement(), 0);
        Check.is(Check.load(x, "stations 1 0"), 0);
        Check.is(x.loadError(), 0);
        Check.is(x.loadStatement(), DrumRope.NONE);
    }

    private static void loadStartsAnew() {
        DrumRope x = Check.shop("stations 1 0;buffers 500 5;rope 30;rule 2;product 0 3;order 0 5 0;order 0 5 0");
        x.expedite(0, true);
        x.advance(20);
        x.stop(0, 50);
        Check.is(x.saveSnapshot(1), 20);
        leaveMuchBehind(x);
        Check.is(Check.load(x, "stations 1 0;product 0 3;order 0 5 90"), 1);
        Check.is(x.now(), 0);
        Check.is(x.rope(), 100);
        Check.is(x.setRule(0), 0);
        Check.is(x.expedite(0, false), false);
        Check.is(x.stateOf(0), 0);
        Check.is(x.stepOf(0), -1);
        Check.is(x.remaining(0), 0);
        Check.is(x.firstRedAt(0), -1);
        Check.is(x.workingOn(0), -1);
        Check.is(x.downUntil(0), -1);
        Check.is(x.busyTicks(0), 0);
        Check.is(x.setups(0), 0);
        Check.is(x.redAt(0), 0);
        Check.is(x.queueLength(0), 0);
        Check.is(x.starvedTicks(), 0);
        Check.is(x.tardiness(), 0);
        Check.is(x.worstStation(), -1);
        Check.is(x.bottleneck(), 0);
        Check.is(x.productCount(), 1);
        Check.is(x.plannedStart(0), 55);
        Check.is(x.releaseTime(0), 35);
        x.advance(36);
        Check.is(x.setups(0), 1);
        Check.is(x.remaining(0), 14);
        Check.is(x.nextChoice(0), -1);
        Check.is(x.restoreSnapshot(1), 20);
        Check.is(x.orderCount(), 2);
    }

    /** A shop, and a prediction in it, with something in every row. */
    private static void leaveMuchBehind(DrumRope x) {
        Check.is(Check.load(x, "stations 3 2;buffers 500 5;rope 5000;rule 1;auto 1;setup 0 9;setup 1 8;setup 2 7;"
                + "product 2 1 0 20 1 20;product 2 1 1 20 0 20" + ";order 0 50 0;order 1 50 0".repeat(9)), 18);
        x.expedite(0, true);
        x.advance(100);
        for (int s = 0; s < 3; s++) {
            x.stop(s, 500);
        }
        Check.is(x.finishOf(17), DrumRope.NONE);
    }

    private static void errorLeavesAll() {
        DrumRope x = Check.shop("stations 2 1;rope 50;product 0 2 1 3;order 0 4 90;order 0 2 5");
        x.advance(9);
        String before = Questions.answers(x);
        Check.is(Check.load(x, "stations 1 0;rope 3;product 0 1;order 0 1 1;order 0 4 9"), -155);
        Check.is(x.loadError(), 5);
        Check.is(x.loadStatement(), 4);
        Check.is(Questions.answers(x), before);
        Check.is(x.appendByte('s'), 1);
        Check.is(x.load(), -100);
        Check.is(Questions.answers(x), before);
    }

    private static void rightTexts() {
        Check.is(Check.shop("stations1 0;rope7").rope(), 7);
        Check.is(Check.shop("  stations 1  0  ;  rope  7  ").rope(), 7);
        Check.is(Check.shop("stations 001 00;rope 0000000000000007").rope(), 7);
        Check.is(Check.shop("stations 6 5").stationCount(), 6);
        DrumRope most = Check.shop("stations 6 0;buffers 500 500;rope 5000;rule 3;auto 1;setup 5 50;"
                + "product 0 20;order 0 50 30000");
        Check.is(most.plannedStart(0), 28500);
        Check.is(most.releaseTime(0), 28000);
        Check.is(most.rope(), 5000);
        DrumRope least = Check.shop("stations 1 0;buffers 1 1;rope 1;rule 0;auto 0;setup 0 0;product 0 1;order 0 1 0");
        Check.is(least.plannedStart(0), 0);
        Check.is(least.rope(), 1);
        Check.is(Check.shop("stations 1 0;product0 1;order0 1 1").orderCount(), 1);
    }

    /** What an earlier text left in the buffer does not belong to a shorter one. */
    private static void shorterText() {
        DrumRope x = Check.shop("stations 1 0;rope 55;rule 3");
        Check.is(Check.load(x, "stations 1 0;rope 5"), 0);
        Check.is(x.rope(), 5);
        Check.is(Check.load(x, "stations 1 0;rope"), -117);
        Check.is(x.loadError(), 1);
        Check.is(Check.load(x, "stations 1 0;ro"), -113);
        Check.is(Check.load(x, "stations 1 0;"), -113);
        Check.is(Check.load(x, "stations 1 0"), 0);
    }

    private static void lastOneCounts() {
        DrumRope x = Check.shop("stations 1 0;rope 5;rule 1;buffers 1 1;setup 0 9;rope 60;rule 3;buffers 7 4;"
                + "product 0 2;setup 0 2;order 0 3 50");
        Check.is(x.rope(), 60);
        Check.is(x.setRule(0), 3);
        Check.is(x.plannedStart(0), 40);
        Check.is(x.releaseTime(0), 33);
        x.advance(34);
        Check.is(x.remaining(0), 7);
    }

    private static void firstStatement() {
        Check.error("", 1, 0, 0);
        Check.error("   ", 1, 3, 0);
        Check.error(";", 1, 0, 0);
        Check.error("station 1 0", 1, 0, 0);
        Check.error("stationss 1 0", 1, 0, 0);
        Check.error("Stations 1 0", 1, 0, 0);
        Check.error("stationS 1 0", 1, 0, 0);
        Check.error(" rope 5", 1, 1, 0);
        Check.error("stations", 1, 8, 0);
        Check.error("stations 1 ", 1, 11, 0);
        Check.error("stations ;", 1, 9, 0);
        Check.error("stations 0 0", 2, 9, 0);
        Check.error("stations 7 0", 2, 9, 0);
        Check.error("stations 6 6", 2, 11, 0);
        Check.error("stations 1 0;", 1, 13, 1);
        Check.error("stations 1 0; ", 1, 14, 1);
        Check.error("stations 1 0;;", 1, 13, 1);
        Check.error("stations 1 0;stations 1 0", 1, 13, 1);
        Check.error("stations 1 0 5", 1, 13, 0);
        Check.error("stations 1 0x", 1, 12, 0);
        Check.error("stations 1 0,rope 5", 1, 12, 0);
    }

    private static void settings() {
        String s = "stations 2 0;";
        Check.error(s + "rope", 1, 17, 1);
        Check.error(s + "rope  ", 1, 19, 1);
        Check.error(s + "rope x5", 1, 18, 1);
        Check.error(s + "rope -5", 1, 18, 1);
        Check.error(s + "rope 0", 2, 18, 1);
        Check.error(s + "rope 5001", 2, 18, 1);
        Check.error(s + "rope 5 6", 1, 20, 1);
        Check.error(s + "rope 5;rop 5", 1, 20, 2);
        Check.error(s + "\trope 5", 1, 13, 1);
        for (String word : new String[] {"buffers", "rope", "rule", "auto", "setup", "product", "order"}) {
            Check.error(s + "z" + word.substring(1) + " 0 1", 1, 13, 1);
            Check.error(s + word.substring(0, word.length() - 1) + "z 0 1", 1, 13, 1);
            Check.error(s + word + "z 0 1", 1, 13, 1);
            Check.error(s + word + "a 0 1", 1, 13, 1);
            Check.error(s + word.substring(1) + " 0 1", 1, 13, 1);
            Check.error(s + word + "{", 1, 13 + word.length(), 1);
            Check.error(s + word + "`", 1, 13 + word.length(), 1);
            Check.error(s + word + "/", 1, 13 + word.length(), 1);
            Check.error(s + word + ":", 1, 13 + word.length(), 1);
        }
        Check.error(s + "rope\u00e95", 1, 17, 1);
        Check.error(s + "rope" + (char) 0, 1, 17, 1);
        Check.error(s + "buffers 0 1", 2, 21, 1);
        Check.error(s + "buffers 501 1", 2, 21, 1);
        Check.error(s + "buffers 1 0", 2, 23, 1);
        Check.error(s + "buffers 1 501", 2, 23, 1);
        Check.error(s + "buffers 1;", 1, 22, 1);
        Check.error(s + "rule 4", 2, 18, 1);
        Check.error(s + "auto 2", 2, 18, 1);
        Check.error(s + "setup 2 5", 2, 19, 1);
        Check.error(s + "setup 0 51", 2, 21, 1);
        Check.error(s + "setup 0;", 1, 20, 1);
    }

    private static void longNumbers() {
        Check.error("stations 1 0;rope 99999999999999999999999999", 2, 18, 1);
        Check.error("stations 1 0;rope 4294967301", 2, 18, 1);
        Check.error("stations 1 0;rope 18446744073709551621", 2, 18, 1);
        Check.error("stations 4294967297 0", 2, 9, 0);
    }

    private static void products() {
        Check.error("stations 2 0;product", 1, 20, 1);
        Check.error("stations 2 0;product;", 1, 20, 1);
        Check.error("stations 2 0;product x", 1, 21, 1);
        Check.error(START + "0", 1, 22, 1);
        Check.error(START + "1 ;", 1, 23, 1);
        Check.error(START + "0 0", 2, 23, 1);
        Check.error(START + "0 21", 2, 23, 1);
        Check.error(START + "2 1", 2, 21, 1);
        Check.error(START + "1 5", 3, 24, 1);
        Check.error(START + "1 5  ", 3, 26, 1);
        Check.error(START + "1 5  ;rope 0", 3, 26, 1);
        Check.error(START + "1 5x", 3, 24, 1);
        Check.error(START + "1 5 ?", 3, 25, 1);
        Check.error(START + "0 1 x", 1, 25, 1);
        Check.error(START + "0 1 0 2", 3, 25, 1);
        Check.error(START + "0 1 0", 3, 25, 1);
        Check.error(START + "0 1 1", 1, 26, 1);
        Check.error(START + "0 1 2 2", 2, 25, 1);
        Check.error(START + "0 1;product 1 1", 3, 36, 2);
    }

    private static void tooManySteps() {
        String six = START + "0 1 1 1 1 1 1 1 1 1 1 1";
        Check.is(Check.shop(six).stepCount(0), 6);
        Check.error(six + " 1 1", 4, 45, 1);
        Check.error(six + " 1", 4, 45, 1);
        Check.error(six + " 2 1", 2, 45, 1);
        Check.error(six + " 0 1", 3, 45, 1);
        Check.error(START + "1 1 1 1 1 1 1 1 1 1 1 1 0 1", 4, 45, 1);
        Check.error(START + "1 1 1 1 1 1 1 1 1 1 1 1", 3, 44, 1);
    }

    private static void tooManyProducts() {
        String six = "stations 1 0" + ";product 0 1".repeat(6);
        Check.is(Check.shop(six).productCount(), 6);
        Check.error(six + ";product", 4, 85, 7);
        Check.error(six + "; product 5", 4, 86, 7);
        Check.error(six + ";productx", 1, 85, 7);
    }

    private static void orders() {
        String s = "stations 1 0;product 0 1;";
        Check.error("stations 1 0;order 0 1 1;product 0 1", 2, 19, 1);
        Check.error(s + "order 1 1 1", 2, 31, 2);
        Check.error(s + "order 0 0 1", 2, 33, 2);
        Check.error(s + "order 0 51 1", 2, 33, 2);
        Check.error(s + "order 0 1 30001", 2, 35, 2);
        Check.error(s + "order 0 1", 1, 34, 2);
        Check.error(s + "order 0 1 5 5", 1, 37, 2);
        Check.error(s + "orders 0 1 5", 1, 25, 2);
    }

    private static void tooManyOrders() {
        String all = "stations 1 0;product 0 1" + ";order 0 1 9".repeat(24);
        Check.is(Check.shop(all).orderCount(), 24);
        Check.error(all + ";order", 4, 313, 26);
        Check.error(all + ";rope", 1, 317, 26);
    }

    private static void tooMuchDrumWork() {
        String text = "stations 2 1;rope 5;product 0 20 1 3;order 0 1 9;order 0 2 9;order 0 3 9";
        Check.error(text, 5, text.length(), 4);
        Check.error(text + "  ", 5, text.length() + 2, 4);
        Check.is(Check.shop(text + ";rope 9").orderCount(), 3);
        Check.error(text + ";rope 8", 5, text.length() + 7, 5);
        Check.error("stations 1 0;product 0 20;order 0 6 9", 5, 37, 2);
        Check.is(Check.shop("stations 1 0;product 0 20;order 0 5 9").orderCount(), 1);
    }

    private static void firstErrorEnds() {
        Check.error("stations 1 0;rope 0;bad", 2, 18, 1);
        Check.error("stations 1 0;rope 1;product 0 9;order 0 9 9;rule 9", 2, 49, 4);
    }

    private static void counts() {
        DrumRope x = Check.shop("stations 4 3;product 3 1;product 0 2 3 4;order 1 2 50;order 0 1 60");
        Check.is(x.stationCount(), 4);
        Check.is(x.productCount(), 2);
        Check.is(x.orderCount(), 2);
        Check.is(x.addOrder(1, 1, 70), 2);
        Check.is(x.orderCount(), 3);
        x.cancel(2);
        Check.is(x.orderCount(), 3);
        x.advance(100);
        Check.is(x.stateOf(0), 2);
        Check.is(x.orderCount(), 3);
    }

    private static void steps() {
        DrumRope x = Check.shop("stations 3 1;product 1 7;product 0 2 1 4 2 6 0 8");
        Check.is(x.stepCount(0), 1);
        Check.is(x.stepCount(1), 4);
        Check.index(() -> x.stepCount(2));
        Check.index(() -> x.stepCount(-1));
        Check.is(x.stepAt(0, 0, 0), 1);
        Check.is(x.stepAt(0, 0, 1), 7);
        Check.is(x.stepAt(1, 3, 0), 0);
        Check.is(x.stepAt(1, 3, 1), 8);
        Check.is(x.stepAt(1, 2, 0), 2);
        Check.is(x.stepAt(1, 2, 1), 6);
        Check.is(x.stepAt(1, 4, 0), -1);
        Check.is(x.stepAt(1, -1, 1), -1);
        Check.is(x.stepAt(1, Integer.MAX_VALUE, 1), -1);
        Check.is(x.stepAt(0, 1, 0), -1);
        Check.argument(() -> x.stepAt(0, 0, 2));
        Check.argument(() -> x.stepAt(0, 9, -1));
        Check.index(() -> x.stepAt(2, 0, 0));
        Check.index(() -> x.stepAt(-1, 0, 7));
    }

    private static void works() {
        DrumRope x = Check.shop("stations 3 1;product 1 7;product 0 2 1 4 2 6 0 8;setup 1 9;rope 5");
        Check.is(x.workOf(0, 1), 7);
        Check.is(x.workOf(1, 50), 1000);
        Check.is(x.workOf(1, 3), 60);
        Check.is(x.drumWork(0, 1), 7);
        Check.is(x.drumWork(0, 50), 350);
        Check.is(x.drumWork(1, 3), 12);
        Check.index(() -> x.workOf(2, 0));
        Check.index(() -> x.workOf(-1, 1));
        Check.argument(() -> x.workOf(1, 0));
        Check.argument(() -> x.workOf(1, 51));
        Check.index(() -> x.drumWork(2, 0));
        Check.index(() -> x.drumWork(-1, 1));
        Check.argument(() -> x.drumWork(1, 0));
        Check.argument(() -> x.drumWork(1, 51));
    }
}
