import java.io.IOException;
import java.util.function.Consumer;
import java.util.function.ToLongFunction;

/** Promises 10 to 17, 28 and 29, sentence by sentence, at the bounds that each names. */
public final class StepBoundsTest {
    private static final int LOW = Integer.MIN_VALUE;
    private static final int HIGH = Integer.MAX_VALUE;
    private static final int[] NO_OXEN = {-1, 5, 6, 8, 10, LOW, HIGH};
    private static final int[] NO_FARMS = {-1, 3, 4, 10, 11, LOW, HIGH};
    private static final Check CHECK = new Check("StepBoundsTest");

    public static void main(String[] args) throws IOException {
        Document document = new Document();
        promise10();
        document.covered(CHECK, 10);
        promise11();
        document.covered(CHECK, 11);
        promise12();
        document.covered(CHECK, 12);
        promise13();
        document.covered(CHECK, 13);
        promise14();
        document.covered(CHECK, 14);
        promise15();
        document.covered(CHECK, 15);
        promise16();
        document.covered(CHECK, 16);
        promise17();
        document.covered(CHECK, 17);
        promise28();
        document.covered(CHECK, 28);
        promise29();
        document.covered(CHECK, 29);
        CHECK.close();
    }

    private static void refused(String what, ToLongFunction<OxenHome> call, long due) {
        Yards.refused(CHECK, what, call, due);
    }

    private static int bit(boolean so) {
        return so ? 1 : 0;
    }

    private static void oxIs(OxenHome home, int ox, int at, int mate) {
        CHECK.due("where ox " + ox + " is", home.of(ox, 6), at);
        CHECK.due("the mate of ox " + ox, home.of(ox, 7), mate);
    }

    /** In a lived yard 0 and 1 are loose at field 0, 2 and 4 a yoke at field 1, 3 at a farm. */
    private static void promise10() {
        CHECK.quote("YOKED: true.");
        OxenHome home = Yards.lived();
        CHECK.due("both there", home.yoke(0, 1, 0), true);
        oxIs(home, 0, 10, 1);
        oxIs(home, 1, 10, 0);
        CHECK.due("a step", home.about(7), 7);
        home = Yards.lived();
        CHECK.due("one there, one at a farm", home.yoke(3, 1, 0), true);
        oxIs(home, 3, 10, 1);
        oxIs(home, 1, 10, 3);
        oxIs(home, 0, 10, -1);
        home = Yards.farmyard();
        CHECK.due("both at farms, to the last field", home.yoke(4, 0, 1), true);
        oxIs(home, 4, 11, 0);
        oxIs(home, 0, 11, 4);
        CHECK.due("a second yoke there", home.yoke(1, 2, 1), true);
        oxIs(home, 1, 11, 2);
        oxIs(home, 0, 11, 4);
        home = Yards.farmyard();
        CHECK.due("both at one farm", home.yoke(1, 4, 0), true);
        oxIs(home, 1, 10, 4);
        CHECK.quote("False, if it can't be.");
        for (int off : NO_OXEN) {
            refused("yoke of one " + off, it -> bit(it.yoke(off, 0, 0)), 0);
            refused("yoke of other " + off, it -> bit(it.yoke(0, off, 0)), 0);
            refused("yoke of both " + off, it -> bit(it.yoke(off, off, 0)), 0);
        }
        for (int off : new int[] {-1, 2, 3, 4, 10, LOW, HIGH}) {
            refused("yoke on field " + off, it -> bit(it.yoke(3, 0, off)), 0);
        }
        for (int ox = 0; ox < 5; ox++) {
            int like = ox;
            refused("yoke of like ones " + ox, it -> bit(it.yoke(like, like, like < 2 ? 0 : 1)), 0);
        }
        refused("one of another field", it -> bit(it.yoke(0, 3, 1)), 0);
        refused("the other of another field", it -> bit(it.yoke(3, 0, 1)), 0);
        refused("both of another field", it -> bit(it.yoke(0, 1, 1)), 0);
        refused("one in a yoke there", it -> bit(it.yoke(2, 3, 1)), 0);
        refused("the other in a yoke there", it -> bit(it.yoke(3, 2, 1)), 0);
        refused("both in a yoke there", it -> bit(it.yoke(2, 4, 1)), 0);
        refused("both the other way round", it -> bit(it.yoke(4, 2, 1)), 0);
        refused("one in a yoke elsewhere", it -> bit(it.yoke(2, 3, 0)), 0);
        refused("both in a yoke elsewhere", it -> bit(it.yoke(2, 4, 0)), 0);
        refused("one in a yoke, one of another field", it -> bit(it.yoke(2, 0, 0)), 0);
    }

    private static void promise11() {
        CHECK.quote("LOOSED: true.");
        for (int ox : new int[] {2, 4}) {
            OxenHome home = Yards.lived();
            CHECK.due("loose", home.loose(ox), true);
            oxIs(home, 2, 11, -1);
            oxIs(home, 4, 11, -1);
            CHECK.due("a step", home.about(7), 7);
            CHECK.due("the other is loose too", home.loose(6 - ox), false);
            CHECK.due("no step", home.about(7), 7);
        }
        CHECK.quote("False: it is in no YOKE, and for others.");
        for (int ox : new int[] {0, 1, 3}) {
            refused("loose of " + ox, it -> bit(it.loose(ox)), 0);
        }
        for (int off : NO_OXEN) {
            refused("loose of " + off, it -> bit(it.loose(off)), 0);
        }
    }

    private static void promise12() {
        CHECK.quote("DRIVEN: true.");
        OxenHome home = Yards.lived();
        CHECK.due("from a field to the last farm", home.drive(1, 2), true);
        oxIs(home, 1, 2, -1);
        oxIs(home, 0, 10, -1);
        CHECK.due("a step", home.about(7), 7);
        CHECK.due("from a farm to the first farm", home.drive(3, 0), true);
        oxIs(home, 3, 0, -1);
        CHECK.due("to where it is", home.drive(3, 0), true);
        CHECK.due("that is a step", home.about(7), 9);
        CHECK.quote("False for others, and of one in a YOKE.");
        for (int off : NO_OXEN) {
            refused("drive of " + off, it -> bit(it.drive(off, 0)), 0);
        }
        for (int off : NO_FARMS) {
            refused("drive to " + off, it -> bit(it.drive(0, off)), 0);
        }
        refused("drive of the lower of a yoke", it -> bit(it.drive(2, 0)), 0);
        refused("drive of the higher of a yoke", it -> bit(it.drive(4, 1)), 0);
    }

    private static void promise13() {
        CHECK.quote("SOLD: true.");
        OxenHome home = Yards.lived();
        CHECK.due("to the last farm", home.sell(0, 2), true);
        CHECK.due("owner", home.of(0, 4), 2);
        CHECK.due("a step", home.about(7), 7);
        CHECK.due("to the first farm, in a yoke", home.sell(4, 0), true);
        CHECK.due("owner", home.of(4, 4), 0);
        oxIs(home, 4, 11, 2);
        CHECK.due("back to its home", home.sell(2, 2), true);
        CHECK.due("owner", home.of(2, 4), 2);
        CHECK.quote("False for others (its OWNER).");
        for (int off : NO_OXEN) {
            refused("sell of " + off, it -> bit(it.sell(off, 0)), 0);
        }
        for (int off : NO_FARMS) {
            refused("sell to " + off, it -> bit(it.sell(0, off)), 0);
        }
        int[] owners = {0, 1, 1, 0, 1};
        for (int i = 0; i < 5; i++) {
            int ox = i;
            refused("sell to its owner", it -> bit(it.sell(ox, owners[ox])), 0);
        }
        Yards.still(CHECK, "nights stay", StepBoundsTest::soldTwoNights, it -> bit(it.sell(3, 2)), 0);
    }

    private static OxenHome soldTwoNights() {
        OxenHome home = Yards.lived();
        home.sell(3, 2);
        home.night();
        home.night();
        return home;
    }

    private static void promise14() {
        CHECK.quote("A WHISTLE: OXEN (bits) that go.");
        OxenHome home = Yards.lived();
        CHECK.due("of the last farm", home.whistle(2), 4);
        oxIs(home, 2, 2, -1);
        oxIs(home, 4, 11, -1);
        CHECK.due("a step", home.about(7), 7);
        CHECK.due("of the first farm", home.whistle(0), 1);
        CHECK.due("none goes", home.whistle(0), 0);
        CHECK.due("that is a step", home.about(7), 9);
        CHECK.due("two go", home.whistle(1), 18);
        CHECK.due("none is left", home.whistle(1), 0);
        home = new OxenHome();
        home.farm(0, 0, 0);
        CHECK.due("without oxen", home.whistle(0), 0);
        home.field(0, 0, 0, 0);
        for (int i = 0; i < 8; i++) {
            home.ox(0, -1, 1, 1);
        }
        for (int i = 0; i < 8; i += 2) {
            home.yoke(i, i + 1, 0);
        }
        CHECK.due("all eight go", home.whistle(0), 255);
        CHECK.quote("NONE for others.");
        for (int off : NO_FARMS) {
            refused("whistle of " + off, it -> it.whistle(off), -1);
        }
        CHECK.due("without farms", new OxenHome().whistle(0), -1);
    }

    private static void promise15() {
        CHECK.quote("AN HOUR: how many FURROWS are ploughed.");
        OxenHome home = new OxenHome();
        CHECK.due("without fields", home.plough(), 0);
        CHECK.due("hour", home.about(3), 7);
        home = Yards.lived();
        CHECK.due("by 11", home.plough(), 11);
        CHECK.due("left", home.about(21), 39);
        CHECK.due("untouched", home.about(20), 24);
        CHECK.due("a step", home.about(7), 7);
        CHECK.due("by 11", home.plough() + home.plough() + home.plough(), 33);
        CHECK.due("left", home.about(21), 6);
        CHECK.due("what is left", home.plough(), 6);
        CHECK.due("left", home.about(21), 0);
        CHECK.due("nothing is left", home.plough(), 0);
        CHECK.due("left", home.about(21), 0);
        CHECK.due("that is a step", home.about(7), 12);
        home = new OxenHome();
        home.farm(0, 0, 0);
        home.field(0, 0, 0, 18);
        home.ox(0, -1, 9, 0);
        home.ox(0, -1, 9, 0);
        home.yoke(0, 1, 0);
        CHECK.due("just all", home.plough(), 18);
        CHECK.due("left", home.about(20), 0);
    }

    private static void promise16() {
        CHECK.quote("A NIGHT: OXEN (bits) that have another HOME then.");
        OxenHome home = new OxenHome();
        CHECK.due("without oxen", home.night(), 0);
        CHECK.due("a step", home.about(7), 1);
        home.farm(0, 0, 0);
        home.farm(1, 1, 1);
        for (int ox = 0; ox < 8; ox++) {
            home.ox(0, -1, 1, 1);
            home.sell(ox, 1);
            home.drive(ox, 1);
        }
        CHECK.due("the first", home.night(), 0);
        CHECK.due("the second", home.night(), 0);
        CHECK.due("the third: all eight", home.night(), 255);
        CHECK.due("the fourth", home.night(), 0);
        for (int ox = 0; ox < 8; ox++) {
            CHECK.due("home of " + ox, home.of(ox, 0), 1);
            CHECK.due("nights of " + ox, home.of(ox, 5), 0);
        }
        CHECK.due("they are steps", home.about(7), 20);
        home.sell(7, 0);
        home.drive(7, 0);
        home.night();
        home.night();
        CHECK.due("one alone", home.night(), 128);
    }

    private static void promise17() {
        CHECK.quote("The latest STEP is taken back: how many can be yet.");
        OxenHome home = Yards.lived();
        for (int left = 5; left >= 0; left--) {
            CHECK.due("steps", home.about(7), left + 1);
            CHECK.due("undo", home.undo(), left);
        }
        CHECK.due("hour", home.about(3), 6);
        CHECK.due("furrows", home.about(20), 30);
        oxIs(home, 0, 0, -1);
        undoOne("yoke", it -> it.yoke(0, 3, 0));
        undoOne("loose", it -> it.loose(4));
        undoOne("drive", it -> it.drive(0, 2));
        undoOne("sell", it -> it.sell(0, 2));
        undoOne("whistle", it -> it.whistle(0));
        undoOne("a drive to where it is", it -> it.drive(3, 2));
        undoOne("plough", it -> it.plough());
        undoOne("night", it -> it.night());
        home = Yards.farmyard();
        for (int i = 1; i <= 25; i++) {
            home.plough();
            CHECK.due("steps behind " + i, home.about(7), Math.min(i, 20));
        }
        for (int left = 19; left >= 0; left--) {
            CHECK.due("undo of twenty", home.undo(), left);
            CHECK.due("hour", home.about(3), (11 + left) % 24);
        }
        CHECK.quote("NONE: there is none.");
        Yards.still(CHECK, "undo of the twenty-first", StepBoundsTest::twentyTakenBack, it -> it.undo(), -1);
        Yards.still(CHECK, "undo of none", Yards::farmyard, it -> it.undo(), -1);
        CHECK.due("undo of a new one", new OxenHome().undo(), -1);
        home = Yards.farmyard();
        home.yoke(0, 0, 0);
        home.drive(5, 0);
        home.sell(0, 0);
        home.loose(0);
        home.whistle(3);
        CHECK.due("undo of what was refused", home.undo(), -1);
    }

    /** Behind a step and its undo nothing differs from a yard without both. */
    private static void undoOne(String what, Consumer<OxenHome> step) {
        refused("undo of " + what, home -> {
            step.accept(home);
            return home.undo();
        }, 6);
    }

    private static OxenHome twentyTakenBack() {
        OxenHome home = Yards.lived();
        for (int i = 0; i < 30; i++) {
            home.night();
        }
        for (int i = 0; i < 20; i++) {
            home.undo();
        }
        return home;
    }

    private static void promise28() {
        CHECK.quote("THE IMAGE is as all is now: HOUR.");
        OxenHome home = new OxenHome();
        CHECK.due("of a new one", home.image(), 6);
        CHECK.due("of a new one again", home.image(), 6);
        for (int i = 0; i < 17; i++) {
            home.plough();
        }
        CHECK.due("at 23", home.image(), 23);
        home.plough();
        CHECK.due("at 0", home.image(), 0);
        CHECK.due("no step", home.about(7), 18);
        home.plough();
        CHECK.due("back to the latest", home.back(), 0);
        CHECK.due("steps", home.about(7), 18);
        CHECK.due("undo behind it", home.undo(), 17);
        CHECK.due("hour", home.about(3), 23);
        home = Yards.crowded();
        home.image();
        OxenHome twin = Yards.crowded();
        home.whistle(1);
        home.night();
        home.hush();
        home.by(0);
        CHECK.due("back", home.back(), 7);
        CHECK.due("a full one is as it was", sameTold(home, twin), true);
        Yards.still(CHECK, "image and nothing else", StepBoundsTest::imaged, it -> it.image(), 7);
    }

    private static OxenHome imaged() {
        OxenHome home = Yards.lived();
        home.image();
        return home;
    }

    private static boolean sameTold(OxenHome home, OxenHome twin) {
        boolean same = true;
        for (int what = 0; what < 25; what++) {
            same &= home.about(what) == twin.about(what);
        }
        for (int ox = 0; ox < 8; ox++) {
            for (int what = 0; what < 8; what++) {
                same &= home.of(ox, what) == twin.of(ox, what);
            }
        }
        return same;
    }

    private static void promise29() {
        CHECK.quote("BACK to THE IMAGE (it stays): HOUR.");
        OxenHome home = Yards.lived();
        home.plough();
        CHECK.due("hour", home.about(3), 8);
        for (int i = 0; i < 3; i++) {
            CHECK.due("back " + i, home.back(), 7);
            CHECK.due("hour", home.about(3), 7);
            CHECK.due("steps", home.about(7), 2);
            CHECK.due("calls", home.about(6), 1);
            CHECK.due("furrows", home.about(20), 24);
            oxIs(home, 0, 10, 1);
            CHECK.due("owner", home.of(2, 4), 2);
            home.undo();
            home.undo();
            home.sell(2, 0);
            home.hush();
            home.farm(1, 1, 1);
            CHECK.due("hour behind undo", home.about(3), 6);
        }
        CHECK.due("undo of none", home.undo() + home.undo(), -1);
        CHECK.due("back to its steps", home.back(), 7);
        CHECK.due("undo", home.undo(), 1);
        home = Yards.farmyard();
        CHECK.due("back to a new one", home.back(), 6);
        CHECK.due("no farms", home.about(0), 0);
        CHECK.due("back to a new one again", home.back(), 6);
    }
}
