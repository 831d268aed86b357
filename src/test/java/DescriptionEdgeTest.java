import java.util.ArrayList;
import java.util.List;

/**
 * Section 1 and promises 1 to 5 at their boundaries; above each test stands the sentence that it is
 * for. In a text with an error the sign ^ stands where the error is.
 */
public final class DescriptionEdgeTest {
    private static final String ONE = "stations 1 0;";
    private static final String TWO = "stations 2 0;";
    private static final String SIX_STEPS = "0 1 1 1 1 1 1 1 1 1 1 1";

    public static void main(String[] args) {
        newObject();
        bufferOf700();
        everyByte();
        loadReturns();
        loadForgets();
        loadErrorAndStatement();
        snapshotsStay();
        separators();
        firstStatement();
        ranges();
        smallestAndGreatest();
        withoutTheStatement();
        autoAndItsLack();
        anyOrder();
        numberedByTheText();
        describedBefore();
        lastOneCounts();
        drumWorkAtMostRope();
        wordsAndNumbers();
        spaces();
        everyByteBehindANumber();
        cannotStand();
        endsTooEarly();
        outOfRangeComesFirst();
        secondStepAtDrum();
        endsWithoutDrum();
        tooMany();
        seventhStep();
        tooMuchDrumWork();
        Check.end();
    }

    /** "A new object is described by the text 'stations 1 0'"; without orders, buffer and snapshots. */
    private static void newObject() {
        DrumRope loaded = Check.shop("stations 1 0");
        Check.is(Questions.everything(new DrumRope()), Questions.everything(loaded), "all of a new object");
        DrumRope x = new DrumRope();
        Check.is(x.restoreSnapshot(0), DrumRope.NONE);
        Check.is(x.restoreSnapshot(1), DrumRope.NONE);
        Check.is(x.appendByte(0), 1);
        Check.is(x.load(), -100);
    }

    /** "Returns the new length of the buffer; FULL if it holds 700 bytes." */
    private static void bufferOf700() {
        DrumRope x = new DrumRope();
        for (int i = 1; i <= 700; i++) {
            Check.is(x.appendByte(i <= 12 ? "stations 1 0".charAt(i - 1) : i == 700 ? ';' : ' '), i);
        }
        Check.is(x.appendByte('r'), DrumRope.FULL);
        Check.is(x.appendByte(0), DrumRope.FULL);
        Check.is(x.appendByte(255), DrumRope.FULL);
        // the last of the 700 bytes is a part of the text, the refused ones are not
        Check.is(x.load(), -800);
        Check.is(x.loadError(), 1);
        Check.is(x.loadStatement(), 1);
        Check.is(x.appendByte('r'), 1);
        Check.is(x.load(), -100);
        Check.is(x.appendByte('r'), 1);
    }

    /** "value: the byte, 0 to 255". */
    private static void everyByte() {
        DrumRope x = new DrumRope();
        for (int value = 0; value <= 255; value++) {
            Check.is(x.appendByte(value), value + 1);
        }
        for (int bad : new int[] {-1, 256, -256, 257, 65536, Integer.MIN_VALUE, Integer.MAX_VALUE}) {
            Check.argument(() -> x.appendByte(bad));
        }
        Check.is(x.appendByte('a'), 257);
    }

    /** "Returns the number of orders; -100 minus the position of the error". */
    private static void loadReturns() {
        Check.is(Check.load(new DrumRope(), "stations 1 0"), 0);
        Check.is(Check.load(new DrumRope(), ONE + "product 0 1"), 0);
        Check.is(Check.load(new DrumRope(), ONE + "product 0 1;order 0 1 1"), 1);
        Check.is(Check.load(new DrumRope(), ONE + "product 0 1" + ";order 0 1 1".repeat(24)), 24);
        Check.is(Check.load(new DrumRope(), "?"), -100);
        Check.is(Check.load(new DrumRope(), " ?"), -101);
    }

    /** "Reads the input buffer as a description and begins at time 0": nothing is left of what was. */
    private static void loadForgets() {
        String text = "stations 2 1;product 0 2 1 3;product 1 4;order 0 4 90;order 1 3 40";
        String fresh = Questions.everything(Check.shop(text));
        DrumRope x = Check.shop("stations 6 5;buffers 500 5;rope 500;rule 3;auto 1;setup 0 9;setup 1 8;setup 5 7;"
                + "product 0 20 1 20 5 9;product 1 20 0 20 5 9;product 5 1;order 0 9 0;order 1 9 0;order 2 9 0");
        for (int i = 0; i < 3; i++) {
            x.expedite(i, true);
        }
        x.advance(200);
        Check.is(x.redAt(0), 1);
        Check.is(x.redAt(1), 1);
        Check.is(x.starvedTicks() > 0, true);
        x.stop(0, 500);
        x.stop(1, 500);
        // a prediction, too, leaves nothing that a text could meet
        Check.is(x.tardinessAhead(1) > 0, true);
        Check.is(Check.load(x, text), 2);
        Check.is(x.redAt(0), 0);
        Check.is(x.redAt(1), 0);
        Check.is(x.starvedTicks(), 0);
        Check.index(() -> x.redAt(2));
        Check.index(() -> x.stepCount(2));
        Check.index(() -> x.stateOf(2));
        Check.is(Questions.everything(x), fresh, "all of a shop that was loaded anew");
    }

    /** "Returns 1 to 5; 0 if the text had no error or there was no such call", and NONE for the statement. */
    private static void loadErrorAndStatement() {
        DrumRope x = new DrumRope();
        checkResult(x, 0, -1);
        String[] texts = {"x", "stations 7 0", TWO + "product 1 1", ONE + "product 0 1;".repeat(6) + "product",
            ONE + "product 0 1;rope 1;rule 0;order 0 2 1"};
        int[] statements = {0, 0, 1, 7, 4};
        for (int kind = 1; kind <= 5; kind++) {
            Check.is(Check.load(x, texts[kind - 1]) <= -100, true);
            checkResult(x, kind, statements[kind - 1]);
            x.advance(1);
            x.saveSnapshot(0);
            Check.is(x.appendByte('s'), 1);
            // neither a byte nor a snapshot is a load
            checkResult(x, kind, statements[kind - 1]);
            x.restoreSnapshot(0);
            checkResult(x, kind, statements[kind - 1]);
            Check.is(Check.load(x, "tations 1 0"), 0);
            checkResult(x, 0, -1);
        }
    }

    private static void checkResult(DrumRope x, int error, int statement) {
        Check.is(x.loadError(), error);
        Check.is(x.loadStatement(), statement);
    }

    /** "The snapshots stay": with a text that is right and with one that is not. */
    private static void snapshotsStay() {
        DrumRope x = Check.shop(ONE + "rope 31");
        x.advance(3);
        x.saveSnapshot(0);
        Check.is(Check.load(x, ONE + "rope 32"), 0);
        x.advance(4);
        x.saveSnapshot(1);
        Check.is(Check.load(x, ONE + "rope"), -117);
        Check.is(x.rope(), 32);
        Check.is(Check.load(x, ONE + "rope 33"), 0);
        Check.is(x.rope(), 33);
        Check.is(x.restoreSnapshot(0), 3);
        Check.is(x.rope(), 31);
        Check.is(x.restoreSnapshot(1), 4);
        Check.is(x.rope(), 32);
    }

    /** "A description is a list of statements, separated by semicolons." */
    private static void separators() {
        Check.errorAt("^;stations 1 0", 1, 0);
        Check.errorAt("stations 1 0;^", 1, 1);
        Check.errorAt("stations 1 0;^;rope 5", 1, 1);
        Check.errorAt("stations 1 0; ^;rope 5", 1, 1);
        Check.errorAt("stations 1 0;rope 5;^", 1, 2);
        Check.errorAt("stations 1 0;rope 5;   ^", 1, 2);
        Check.errorAt("stations 1 0 ^rope 5", 1, 0);
        Check.errorAt("stations 1 0;rope 5 ^rule 1", 1, 1);
        Check.errorAt("stations 1 0;rope 5^rule 1", 1, 1);
        Check.errorAt("stations 1 0;rope 5^:rule 1", 1, 1);
    }

    /** "The first statement is: stations COUNT DRUM". */
    private static void firstStatement() {
        Check.errorAt("^", 1, 0);
        for (String other : new String[] {"buffers 1 1", "rope 5", "rule 0", "auto 0", "setup 0 0", "product 0 1",
            "order 0 1 1", "station 1 0", "stationss 1 0", "1 0", "?"}) {
            Check.errorAt("^" + other + ";stations 1 0", 1, 0);
            Check.errorAt("  ^" + other, 1, 0);
        }
        Check.errorAt("stations 1 0;^stations 1 0", 1, 1);
        Check.errorAt("stations 1 0;rope 5;^stations 2 0", 1, 2);
    }

    /** The lowest and the highest number are right, the next ones are error 2. */
    private static void range(String before, int low, int high, String after, int statement) {
        Check.shop(before + low + after);
        Check.shop(before + high + after);
        if (low > 0) {
            Check.errorAt(before + "^" + (low - 1) + after, 2, statement);
        }
        Check.errorAt(before + "^" + (high + 1) + after, 2, statement);
        Check.errorAt(before + "^" + (4294967296L + low) + after, 2, statement);
        // 2 to the 64th plus the lowest number
        Check.errorAt(before + "^1844674407370955161" + (6 + low) + after, 2, statement);
    }

    /** "1 to 6 stations", "1 to 500 each", "1 to 5000", and so on; "a station or product that does not exist". */
    private static void ranges() {
        range("stations ", 1, 6, " 0", 0);
        for (int count = 1; count <= 6; count++) {
            range("stations " + count + " ", 0, count - 1, "", 0);
            range("stations " + count + " 0;setup ", 0, count - 1, " 5", 1);
            range("stations " + count + " 0;setup 0 1;rule 2;setup ", 0, count - 1, " 5;rule 1", 3);
        }
        range(ONE + "buffers ", 1, 500, " 7", 1);
        range(ONE + "buffers 7 ", 1, 500, "", 1);
        range(ONE + "rope ", 1, 5000, "", 1);
        range(ONE + "rule ", 0, 3, "", 1);
        range(ONE + "auto ", 0, 1, "", 1);
        range(ONE + "setup 0 ", 0, 50, "", 1);
        range("stations 6 5;setup 5 ", 0, 50, "", 1);
        range("stations 3 1;product 1 1 ", 0, 2, " 1", 1);
        range("stations 6 1;product 1 1 0 1 0 1 0 1 0 1 ", 0, 5, " 1", 1);
        range(ONE + "product 0 ", 1, 20, "", 1);
        range(TWO + "product 0 1 1 ", 1, 20, "", 1);
        range(TWO + "product 0 1 1 1 1 1 1 1 1 1 1 ", 1, 20, "", 1);
        range(ONE + "product 0 1;order ", 0, 0, " 1 1", 2);
        range(ONE + "product 0 1" + ";product 0 1".repeat(5) + ";order ", 0, 5, " 1 1", 7);
        range(ONE + "product 0 1;order 0 ", 1, 50, " 1", 2);
        range(ONE + "product 0 1;order 0 1 ", 0, 30000, "", 2);
        Check.errorAt("stations ^0 0", 2, 0);
        Check.errorAt("stations ^000 0", 2, 0);
        Check.errorAt(ONE + "order ^0 1 1", 2, 1);
        Check.errorAt(ONE + "product ^1 1", 2, 1);
    }

    /** The edges of each range are taken as they stand. */
    private static void smallestAndGreatest() {
        DrumRope most = Check.shop("stations 6 5;buffers 500 499;rope 5000;rule 3;setup 5 50;setup 0 50;"
                + "product 0 20 5 20;order 0 50 30000;order 0 50 2000");
        Check.is(most.stationCount(), 6);
        Check.is(most.rope(), 5000);
        Check.is(most.drumWork(0, 50), 1000);
        Check.is(most.dueOf(0), 30000);
        Check.is(most.plannedStart(0), 28501);
        Check.is(most.releaseTime(0), 28001);
        Check.is(most.plannedStart(1), 501);
        Check.is(most.releaseTime(1), 1);
        Check.is(most.setRule(3), 3);
        most.advance(2);
        Check.is(most.remaining(1), 1049);
        DrumRope least = Check.shop("stations 1 0;buffers 1 1;rope 1;rule 0;auto 0;setup 0 0;product 0 1;order 0 1 0");
        Check.is(least.stationCount(), 1);
        Check.is(least.rope(), 1);
        Check.is(least.drumWork(0, 1), 1);
        Check.is(least.dueOf(0), 0);
        Check.is(least.plannedStart(0), 0);
        Check.is(least.releaseTime(0), -1);
        Check.is(least.setRule(0), 0);
        Check.is(least.advance(1), 1);
        DrumRope setup = Check.shop("stations 1 0;buffers 1 1;setup 0 1;product 0 1;order 0 1 0");
        Check.is(setup.advance(1), 0);
        Check.is(setup.advance(1), 1);
    }

    /** "without this statement 20 and 20", "100 without it", "0 without it": each, with all others there. */
    private static void withoutTheStatement() {
        DrumRope noBuffers = Check.shop("stations 1 0;rope 50;rule 2;auto 1;setup 0 9;product 0 5;order 0 1 90");
        Check.is(noBuffers.plannedStart(0), 65);
        Check.is(noBuffers.releaseTime(0), 45);
        DrumRope noRope = Check.shop("stations 1 0;buffers 1 2;rule 2;auto 1;setup 0 9;product 0 5;order 0 20 90");
        Check.is(noRope.rope(), 100);
        Check.is(noRope.addOrder(0, 20, 1), 1);
        Check.is(noRope.addOrder(0, 21, 1), DrumRope.TOO_LARGE);
        DrumRope noRule = Check.shop("stations 1 0;buffers 1 2;rope 50;auto 1;setup 0 9;product 0 5;order 0 1 90");
        Check.is(noRule.setRule(1), 0);
        DrumRope noSetup = Check.shop("stations 2 0;buffers 500 2;rope 50;rule 2;auto 1;setup 1 9;product 0 5;"
                + "order 0 1 90");
        noSetup.advance(1);
        Check.is(noSetup.remaining(0), 4);
        // a statement of an earlier text is no statement of this one
        Check.is(Check.load(noSetup, "stations 2 0"), 0);
        Check.is(noSetup.rope(), 100);
        Check.is(noSetup.setRule(0), 0);
    }

    /** "auto AUTO - 0 or 1; 0 without it": at 0 order 0 is black and order 1 green and shorter. */
    private static void autoAndItsLack() {
        String shop = "stations 1 0;buffers 30 10;rope 500;rule 3;product 0 1;order 0 20 30;order 0 10 35";
        Check.is(firstBegun(shop), 1);
        Check.is(firstBegun(shop + ";auto 0"), 1);
        Check.is(firstBegun(shop + ";auto 1"), 0);
        Check.is(firstBegun(shop + ";auto 1;auto 0"), 1);
        Check.is(firstBegun(shop + ";auto 0;auto 1"), 0);
        DrumRope x = Check.shop(shop + ";auto 1");
        x.advance(1);
        Check.is(Check.load(x, shop), 2);
        x.advance(1);
        Check.is(x.workingOn(0), 1);
    }

    private static int firstBegun(String text) {
        DrumRope x = Check.shop(text);
        x.advance(1);
        return x.workingOn(0);
    }

    /** "The others may occur in any order". */
    private static void anyOrder() {
        String[] settings = {"buffers 7 4", "rope 60", "rule 2", "auto 1", "setup 1 3"};
        String due = null;
        for (int turn = 0; turn < settings.length; turn++) {
            for (int product = 0; product <= settings.length; product++) {
                for (int order = product + 1; order <= settings.length + 1; order++) {
                    List<String> list = new ArrayList<>();
                    for (int i = 0; i < settings.length; i++) {
                        list.add(settings[(turn + i) % settings.length]);
                    }
                    list.add(product, "product 0 2 1 3");
                    list.add(order, "order 0 20 80");
                    String all = Questions.everything(Check.shop("stations 2 1;" + String.join(";", list)));
                    due = due == null ? all : due;
                    Check.is(all, due, "all of the shop of " + list);
                }
            }
        }
        DrumRope x = Check.shop("stations 2 1;product 0 2 1 3;order 0 20 80;setup 1 3;auto 1;rule 2;rope 60;"
                + "buffers 7 4");
        Check.is(x.plannedStart(0), 16);
        Check.is(x.releaseTime(0), 9);
        Check.is(x.setRule(2), 2);
    }

    /** "numbered from 0 in the order of the text", products and orders alike. */
    private static void numberedByTheText() {
        DrumRope x = Check.shop(ONE + "product 0 11;order 0 1 101;product 0 12;order 1 2 102;order 0 3 103;"
                + "product 0 13;product 0 14;product 0 15;product 0 16;order 5 4 104");
        Check.is(x.productCount(), 6);
        for (int p = 0; p < 6; p++) {
            Check.is(x.stepAt(p, 0, 1), 11 + p);
        }
        int[] products = {0, 1, 0, 5};
        for (int i = 0; i < 4; i++) {
            Check.is(x.productOf(i), products[i]);
            Check.is(x.quantityOf(i), i + 1);
            Check.is(x.dueOf(i), 101 + i);
        }
        StringBuilder all = new StringBuilder(ONE + "product 0 1");
        for (int i = 0; i < 24; i++) {
            all.append(";order 0 ").append(50 - i).append(" ").append(900 - i);
        }
        DrumRope full = Check.shop(all.toString());
        for (int i = 0; i < 24; i++) {
            Check.is(full.quantityOf(i), 50 - i);
            Check.is(full.dueOf(i), 900 - i);
        }
    }

    /** "an order for a product that was described before". */
    private static void describedBefore() {
        Check.errorAt(ONE + "order ^0 1 1;product 0 1", 2, 1);
        Check.errorAt(ONE + "product 0 1;order ^1 1 1;product 0 1", 2, 2);
        Check.is(Check.shop(ONE + "product 0 1;product 0 1;order 1 1 1").productOf(0), 1);
        DrumRope x = Check.shop(ONE + "product 0 1;product 0 1");
        // the products of an earlier text do not count
        Check.is(Check.load(x, ONE + "order 0 1 1"), -119);
        Check.is(x.loadError(), 2);
    }

    /** "Of several statements that set the same, the last one counts." */
    private static void lastOneCounts() {
        Check.is(Check.shop(ONE + "rope 7;rope 9;rope 8").rope(), 8);
        Check.is(Check.shop(ONE + "rule 1;rule 3;rule 2").setRule(0), 2);
        DrumRope x = Check.shop("stations 2 0;buffers 500 9;setup 0 9;setup 1 4;setup 0 2;product 0 1 1 1;order 0 3 0;"
                + "buffers 400 5");
        Check.is(x.releaseTime(0), -400);
        x.advance(1);
        Check.is(x.remaining(0), 4);
        x.advance(5);
        // the setup of another station is not the same
        Check.is(x.remaining(0), 6);
        Check.errorAt(ONE + "rope 7;rope ^0", 2, 2);
        Check.errorAt(ONE + "rope ^0;rope 7", 2, 1);
    }

    /** "At the end of the text, the drum work of each order must be at most ROPE." */
    private static void drumWorkAtMostRope() {
        String order = "stations 2 1;product 0 20 1 6;order 0 5 9";
        Check.is(Check.shop(order + ";rope 30").orderCount(), 1);
        Check.errorAt(order + ";rope 29^", 5, 2);
        Check.is(Check.shop("stations 2 1;rope 29;product 0 20 1 6;order 0 5 9;rope 30").orderCount(), 1);
        Check.errorAt("stations 2 1;rope 30;product 0 20 1 6;order 0 5 9;rope 29^", 5, 3);
        Check.is(Check.shop(ONE + "rope 1000;product 0 20;order 0 50 9").orderCount(), 1);
        Check.errorAt(ONE + "rope 999;product 0 20;order 0 50 9^", 5, 3);
    }

    /** "A word is a maximal run of lower-case letters, a number a maximal run of digits." */
    private static void wordsAndNumbers() {
        Check.errorAt(ONE + "^ropes 5", 1, 1);
        Check.errorAt(ONE + "^rop 5", 1, 1);
        Check.errorAt(ONE + "^roperule 5", 1, 1);
        Check.errorAt(ONE + "rope^_5", 1, 1);
        Check.errorAt(ONE + "^Rope 5", 1, 1);
        Check.errorAt(ONE + "^roPe 5", 1, 1);
        Check.errorAt(ONE + "^ropE 5", 1, 1);
        Check.errorAt(ONE + "rope^E 5", 1, 1);
        Check.errorAt("stations ^10", 2, 0);
        Check.is(Check.shop(ONE + "rope 0005000").rope(), 5000);
        Check.errorAt(ONE + "rope ^05001", 2, 1);
        Check.errorAt(ONE + "rope ^00", 2, 1);
        Check.errorAt(ONE + "rope 5^.0", 1, 1);
        Check.errorAt(ONE + "rope ^+5", 1, 1);
        Check.errorAt(ONE + "rope ^-1", 1, 1);
        Check.is(Check.shop(ONE + "rope " + "0".repeat(681) + "7").rope(), 7);
        Check.errorAt(ONE + "rope ^7" + "0".repeat(681), 2, 1);
    }

    /** "Spaces (byte 32) may stand before and after words, numbers and semicolons; they are required only .." */
    private static void spaces() {
        String tight = "stations2 1;buffers7 4;rope60;rule2;auto1;setup1 3;product0 2 1 3;order0 20 80";
        String wide = tight.replaceAll("([a-z]+|[0-9]+|;)", "  $1  ");
        String due = Questions.everything(Check.shop(tight));
        Check.is(Questions.everything(Check.shop(wide)), due, "all of the shop of " + wide);
        Check.is(Questions.everything(Check.shop(tight.replaceAll("([a-z])([0-9])", "$1 $2"))), due, "all");
        Check.is(Check.shop(tight).rope(), 60);
        // between two words and between two numbers: without a space they are one
        Check.errorAt(ONE + "rope ^rule 5", 1, 1);
        Check.errorAt(ONE + "^roperule 5", 1, 1);
        Check.errorAt(ONE + "buffers 7 ^rule 5", 1, 1);
        Check.errorAt(ONE + "buffers 74^;rule 1", 1, 1);
        Check.errorAt(ONE + "^ro pe 5", 1, 1);
        Check.errorAt(ONE + "rope 5 ^0", 1, 1);
    }

    /** A byte that is no space, digit, letter or semicolon can stand nowhere. */
    private static void everyByteBehindANumber() {
        for (int value = 0; value <= 255; value++) {
            char c = (char) value;
            String text = "stations 1 0" + c + ";rope 5";
            if (c == ' ' || c == '0') {
                Check.is(Check.shop(text).rope(), 5);
            } else if (c >= '1' && c <= '9') {
                Check.error(text, 2, 11, 0);
            } else if (c == ';') {
                Check.error(text, 1, 13, 1);
            } else {
                Check.error(text, 1, 12, 0);
            }
            if (c != ' ' && c != 's') {
                Check.error(c + "stations 1 0", 1, 0, 0);
            }
            if (c != ' ' && (c < '0' || c > '9')) {
                Check.error("stations 1 " + c + "0", 1, 11, 0);
            }
            if (c != ' ' && c != 'r') {
                Check.error("stations 1 0;" + c + "rope 5", 1, 13, 1);
            }
        }
    }

    /** "a byte or a word cannot stand at its place (position of the byte or of the word's first byte)". */
    private static void cannotStand() {
        Check.errorAt("stations ^x 0", 1, 0);
        Check.errorAt("stations ^xyz 0", 1, 0);
        Check.errorAt("stations 1 ^xyz", 1, 0);
        Check.errorAt("stations 1 0 ^xyz", 1, 0);
        Check.errorAt("stations 1 0 ^0", 1, 0);
        Check.errorAt("stations 1^;0", 1, 0);
        Check.errorAt("stations^;1 0", 1, 0);
        Check.errorAt(ONE + "^5", 1, 1);
        Check.errorAt(ONE + " ^57 rope", 1, 1);
        for (String first : new String[] {"buffers 1", "setup 0"}) {
            String word = first.substring(0, first.indexOf(' '));
            Check.errorAt(ONE + word + " ^rope 1", 1, 1);
            Check.errorAt(ONE + word + "^;1 1", 1, 1);
            Check.errorAt(ONE + first + " ^rope 1", 1, 1);
            Check.errorAt(ONE + first + "^;1", 1, 1);
            Check.errorAt(ONE + first + " 1 ^1", 1, 1);
            Check.errorAt(ONE + first + " 1^x", 1, 1);
        }
        for (String one : new String[] {"rope", "rule", "auto"}) {
            Check.errorAt(ONE + one + " ^rope 1", 1, 1);
            Check.errorAt(ONE + one + "^;1", 1, 1);
            Check.errorAt(ONE + one + " 1 ^1", 1, 1);
            Check.errorAt(ONE + one + " 1^x", 1, 1);
            Check.errorAt(ONE + one + " 1 ^rope 1", 1, 1);
        }
        String order = ONE + "product 0 1;order";
        Check.errorAt(order + " ^x 1 1", 1, 2);
        Check.errorAt(order + " 0 ^x 1", 1, 2);
        Check.errorAt(order + " 0 1 ^x", 1, 2);
        Check.errorAt(order + " 0 1^;1", 1, 2);
        Check.errorAt(order + " 0 1 1 ^1", 1, 2);
        Check.errorAt(order + " 0 1 1^x", 1, 2);
        Check.errorAt(ONE + "product ^x 1", 1, 1);
        Check.errorAt(ONE + "product 0 ^x", 1, 1);
        Check.errorAt(ONE + "product 0^;order", 1, 1);
        Check.errorAt(ONE + "product 0 1 ^x", 1, 1);
        Check.errorAt(TWO + "product 0 1 1 ^x", 1, 1);
    }

    /** "or the text ends too early (position: its length)". */
    private static void endsTooEarly() {
        for (String spaces : new String[] {"", " ", "    "}) {
            String end = spaces + "^";
            Check.errorAt(end, 1, 0);
            Check.errorAt("stations" + end, 1, 0);
            Check.errorAt("stations 1" + end, 1, 0);
            Check.errorAt("stations 1 0;" + end, 1, 1);
            Check.errorAt(ONE + "buffers" + end, 1, 1);
            Check.errorAt(ONE + "buffers 1" + end, 1, 1);
            Check.errorAt(ONE + "rope" + end, 1, 1);
            Check.errorAt(ONE + "rule" + end, 1, 1);
            Check.errorAt(ONE + "auto" + end, 1, 1);
            Check.errorAt(ONE + "setup" + end, 1, 1);
            Check.errorAt(ONE + "setup 0" + end, 1, 1);
            Check.errorAt(ONE + "product 0" + end, 1, 1);
            Check.errorAt(TWO + "product 0 1 1" + end, 1, 1);
            Check.errorAt(ONE + "product 0 1;order" + end, 1, 2);
            Check.errorAt(ONE + "product 0 1;order 0" + end, 1, 2);
            Check.errorAt(ONE + "product 0 1;order 0 1" + end, 1, 2);
            Check.errorAt(ONE + "product 0 1;order 0 1 1;" + end, 1, 3);
        }
        // a word that is cut off is a wrong word
        Check.errorAt("^station", 1, 0);
        Check.errorAt(ONE + "^ro", 1, 1);
        // a product without any step: a number has to stand there
        Check.errorAt(ONE + "product^", 1, 1);
        Check.errorAt(ONE + "product  ^", 1, 1);
        Check.errorAt(ONE + "product^;rope 5", 1, 1);
        Check.errorAt(ONE + "product ^x", 1, 1);
    }

    /** "The text is read from left to right; the first error ends it." */
    private static void outOfRangeComesFirst() {
        Check.errorAt("stations ^7 x", 2, 0);
        Check.errorAt("stations ^7 7", 2, 0);
        Check.errorAt("stations ^7", 2, 0);
        Check.errorAt("stations 1 ^1;x", 2, 0);
        Check.errorAt(ONE + "buffers ^0 0", 2, 1);
        Check.errorAt(ONE + "buffers ^501", 2, 1);
        Check.errorAt(ONE + "buffers 1 ^501 x", 2, 1);
        Check.errorAt(ONE + "buffers 1 ^x 501", 1, 1);
        Check.errorAt(ONE + "setup ^1 51", 2, 1);
        Check.errorAt(ONE + "rope ^5001x", 2, 1);
        Check.errorAt(ONE + "product 0 ^21 0 1", 2, 1);
        Check.errorAt(ONE + "product ^1 21", 2, 1);
        Check.errorAt(ONE + "product 0 1;order ^1 0 30001", 2, 2);
        Check.errorAt(ONE + "product 0 1;order 0 ^0 30001", 2, 2);
        Check.errorAt(ONE + "rope 5;^x;rope 5001", 1, 2);
        Check.errorAt(ONE + "rope ^5001;x", 2, 1);
    }

    /** "a step at the drum in a product that has one already (position of the number of the station)". */
    private static void secondStepAtDrum() {
        Check.errorAt(ONE + "product 0 1 ^0 1", 3, 1);
        Check.errorAt(ONE + "product 0 1 ^000 1", 3, 1);
        Check.errorAt(ONE + "product 0 1 ^0", 3, 1);
        Check.errorAt(ONE + "product 0 1 ^0 x", 3, 1);
        Check.errorAt(ONE + "product 0 1 ^0 21", 3, 1);
        Check.errorAt("stations 3 2;product 0 1 2 1 1 1 ^2 1", 3, 1);
        Check.errorAt("stations 3 2;product 2 1;product 0 1 2 1 0 1 1 1 0 1 ^2 1", 3, 2);
        // steps at another station may come again, and each product has its own
        Check.is(Check.shop("stations 3 2;product 0 1 2 1 0 1 0 1;product 2 1").stepCount(0), 4);
    }

    /** "or a product that ends without one (.. spaces left out, or the length of the text; .. before error 1)". */
    private static void endsWithoutDrum() {
        Check.errorAt(TWO + "product 1 1^;rope 5", 3, 1);
        Check.errorAt(TWO + "product 1 1   ^;rope 5", 3, 1);
        Check.errorAt(TWO + "product 1 1^", 3, 1);
        Check.errorAt(TWO + "product 1 1   ^", 3, 1);
        Check.errorAt(TWO + "product 1 1 ^x", 3, 1);
        Check.errorAt(TWO + "product 1 1^x", 3, 1);
        Check.errorAt(TWO + "product 1 1 ^-1", 3, 1);
        Check.errorAt(TWO + "product 1 1 ^" + (char) 0, 3, 1);
        Check.errorAt(TWO + "product 1 1 1 1 1 1 1 1 1 1 1 1^;rope 5", 3, 1);
        Check.errorAt(TWO + "product 1 1 1 1 1 1 1 1 1 1 1 1 ^x", 3, 1);
        Check.errorAt(TWO + "product 0 1;product 1 1^;rope 0", 3, 2);
        // in the midst of a step it has not ended
        Check.errorAt(TWO + "product 1 ^x", 1, 1);
        Check.errorAt(TWO + "product 1^;", 1, 1);
        Check.errorAt(TWO + "product 1 1 1 ^", 1, 1);
        Check.errorAt(TWO + "product 1 1 ^2 1", 2, 1);
        Check.errorAt(TWO + "product 1 1 1 ^0", 2, 1);
        // one that has one ends as it should
        Check.errorAt(TWO + "product 1 1 0 1 ^x", 1, 1);
        Check.is(Check.shop(TWO + "product 1 1 0 1   ").productCount(), 1);
    }

    /** "a seventh product or a 25th order (position of its word)". */
    private static void tooMany() {
        String products = ONE + "product 0 1;".repeat(6);
        Check.is(Check.shop(products + "rope 5").productCount(), 6);
        for (String rest : new String[] {"product 0 1", "product", "product 9 9", "product;", "product x"}) {
            Check.errorAt(products + "^" + rest, 4, 7);
            Check.errorAt(products + "  ^" + rest, 4, 7);
        }
        Check.errorAt(products + "^products", 1, 7);
        Check.errorAt(products + "rope ^0;product 0 1", 2, 7);
        String orders = ONE + "product 0 1" + ";order 0 1 1".repeat(24) + ";";
        Check.is(Check.shop(orders + "rope 5").orderCount(), 24);
        for (String rest : new String[] {"order 0 1 1", "order", "order 9 9 9", "order;", "order x"}) {
            Check.errorAt(orders + "^" + rest, 4, 26);
            Check.errorAt(orders + "   ^" + rest, 4, 26);
        }
        Check.errorAt(orders + "^orders", 1, 26);
        Check.errorAt(orders + "product ^1 1", 2, 26);
        // the limits are those of one text
        DrumRope x = Check.shop(products + "rope 5");
        Check.is(Check.load(x, products + "rope 5"), 0);
        DrumRope y = Check.shop(orders + "rope 5");
        Check.is(Check.load(y, orders + "rope 5"), 24);
    }

    /** "or a seventh step (position of the number of its station; errors 2 and 3 at this number come first)". */
    private static void seventhStep() {
        String six = TWO + "product " + SIX_STEPS;
        Check.is(Check.shop(six).stepCount(0), 6);
        Check.is(Check.shop(six + ";rope 5").stepCount(0), 6);
        Check.errorAt(six + " ^1 1", 4, 1);
        Check.errorAt(six + "  ^01 1", 4, 1);
        Check.errorAt(six + " ^1", 4, 1);
        Check.errorAt(six + " ^1 21", 4, 1);
        Check.errorAt(six + " ^1 x", 4, 1);
        Check.errorAt(six + " ^2 1", 2, 1);
        Check.errorAt(six + " ^99999999999 1", 2, 1);
        Check.errorAt(six + " ^0 1", 3, 1);
        Check.errorAt(six + " ^x", 1, 1);
        String withoutDrum = TWO + "product 1 1 1 1 1 1 1 1 1 1 1 1";
        Check.errorAt(withoutDrum + " ^0 1", 4, 1);
        Check.errorAt(withoutDrum + " ^1 1", 4, 1);
        Check.errorAt(withoutDrum + " ^2 1", 2, 1);
        Check.is(Check.shop(TWO + "product 1 1 1 1 1 1 1 1 1 1 0 1").stepCount(0), 6);
    }

    /** "Error 5: .. when the text has no other error (position: the length; .. of the first such order)". */
    private static void tooMuchDrumWork() {
        String text = ONE + "rope 5;product 0 1;order 0 5 1;order 0 6 1;order 0 7 1;rule 1";
        Check.errorAt(text + "^", 5, 4);
        Check.errorAt(text + "   ^", 5, 4);
        Check.errorAt(text + ";rope 6^", 5, 5);
        Check.is(Check.shop(text + ";rope 7").orderCount(), 3);
        Check.errorAt(text + "^x", 1, 6);
        Check.errorAt(text + ";^", 1, 7);
        Check.errorAt(text + ";rule ^4", 2, 7);
        Check.errorAt(text + ";product 0 1 ^0 1", 3, 7);
        Check.errorAt(text + ";order 0 1 1".repeat(21) + ";^order 0 1 1", 4, 28);
        Check.errorAt(ONE + "product 0 3;order 0 34 0^", 5, 2);
        Check.is(Check.shop(ONE + "product 0 3;order 0 33 0").orderCount(), 1);
    }
}
