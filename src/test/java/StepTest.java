/** Promises 10 to 17, 28, 29: what is done by hand, taken back, and gone back to. */
public final class StepTest {
    private static final Check CHECK = new Check("StepTest");

    public static void main(String[] args) {
        yoke();
        loose();
        drive();
        sell();
        whistle();
        whistleByLaw();
        whistleAsTheyStand();
        plough();
        ploughByLaw();
        night();
        undo();
        undoOfEach();
        undoLeavesWhatWasTold();
        image();
        imageHoldsAll();
        imageHoldsTexts();
        CHECK.close();
    }

    /** Three farms, two fields, five oxen. */
    private static OxenHome farmyard() {
        OxenHome home = new OxenHome();
        home.farm(0, 0, 2);
        home.farm(5, 5, 4);
        home.farm(9, 0, 6);
        home.field(1, 1, 3, 30);
        home.field(6, 6, 7, 50);
        home.ox(0, 1, 3, 1);
        home.ox(1, -1, 4, 2);
        home.ox(2, 0, 5, 3);
        home.ox(0, 2, 6, 4);
        home.ox(1, 1, 7, 5);
        return home;
    }

    private static void oxIs(OxenHome home, int ox, int at, int mate) {
        CHECK.due("where ox " + ox + " is", home.of(ox, 6), at);
        CHECK.due("the mate of ox " + ox, home.of(ox, 7), mate);
    }

    private static void yoke() {
        OxenHome home = farmyard();
        CHECK.due("ox -1", home.yoke(-1, 1, 0), false);
        CHECK.due("ox 5", home.yoke(0, 5, 0), false);
        CHECK.due("field -1", home.yoke(0, 1, -1), false);
        CHECK.due("field 2", home.yoke(0, 1, 2), false);
        CHECK.due("alike", home.yoke(1, 1, 0), false);
        CHECK.due("no step", home.about(7), 0);
        CHECK.due("yoke", home.yoke(3, 1, 0), true);
        CHECK.due("a step", home.about(7), 1);
        oxIs(home, 3, 10, 1);
        oxIs(home, 1, 10, 3);
        CHECK.due("one is yoked", home.yoke(0, 1, 0), false);
        CHECK.due("the other is yoked", home.yoke(3, 0, 0), false);
        CHECK.due("again", home.yoke(3, 1, 0), false);
        home.loose(1);
        CHECK.due("on another field", home.yoke(1, 0, 1), false);
        CHECK.due("both on another field", home.yoke(1, 3, 1), false);
        CHECK.due("one there, one at a farm", home.yoke(0, 1, 0), true);
        CHECK.due("the third", home.yoke(3, 2, 0), true);
        CHECK.due("a fifth", home.yoke(4, 3, 0), false);
        oxIs(home, 0, 10, 1);
        oxIs(home, 2, 10, 3);
        home.loose(0);
        home.loose(3);
        CHECK.due("both there", home.yoke(0, 3, 0), true);
        oxIs(home, 3, 10, 0);
        home.drive(1, 1);
        home.yoke(1, 4, 1);
        home.loose(4);
        CHECK.due("from field 1 to field 0", home.yoke(4, 2, 0), false);
        CHECK.due("both there, on field 1", home.yoke(4, 1, 1), true);
        oxIs(home, 4, 11, 1);
    }

    private static void loose() {
        OxenHome home = farmyard();
        home.yoke(0, 1, 1);
        CHECK.due("in none", home.loose(2), false);
        CHECK.due("ox -1", home.loose(-1), false);
        CHECK.due("ox 5", home.loose(5), false);
        CHECK.due("steps", home.about(7), 1);
        CHECK.due("loose", home.loose(1), true);
        CHECK.due("steps", home.about(7), 2);
        oxIs(home, 0, 11, -1);
        oxIs(home, 1, 11, -1);
        CHECK.due("the mate is loose", home.loose(0), false);
    }

    private static void drive() {
        OxenHome home = farmyard();
        home.yoke(0, 1, 1);
        CHECK.due("ox -1", home.drive(-1, 0), false);
        CHECK.due("ox 5", home.drive(5, 0), false);
        CHECK.due("farm -1", home.drive(2, -1), false);
        CHECK.due("farm 3", home.drive(2, 3), false);
        CHECK.due("in a yoke", home.drive(1, 2), false);
        CHECK.due("steps", home.about(7), 1);
        CHECK.due("from farm to farm", home.drive(2, 1), true);
        oxIs(home, 2, 1, -1);
        CHECK.due("where it is", home.drive(2, 1), true);
        CHECK.due("steps", home.about(7), 3);
        home.loose(0);
        CHECK.due("from a field", home.drive(1, 2), true);
        oxIs(home, 1, 2, -1);
        oxIs(home, 0, 11, -1);
        CHECK.due("home", home.of(1, 0), 1);
    }

    private static void sell() {
        OxenHome home = farmyard();
        CHECK.due("ox -1", home.sell(-1, 0), false);
        CHECK.due("ox 5", home.sell(5, 0), false);
        CHECK.due("farm -1", home.sell(0, -1), false);
        CHECK.due("farm 3", home.sell(0, 3), false);
        CHECK.due("its owner", home.sell(0, 0), false);
        CHECK.due("steps", home.about(7), 0);
        CHECK.due("sold", home.sell(0, 2), true);
        CHECK.due("owner", home.of(0, 4), 2);
        CHECK.due("home", home.of(0, 0), 0);
        CHECK.due("at", home.of(0, 6), 0);
        home.drive(0, 2);
        home.night();
        CHECK.due("nights", home.of(0, 5), 1);
        CHECK.due("its owner again", home.sell(0, 2), false);
        CHECK.due("nights stay", home.of(0, 5), 1);
        home.yoke(0, 1, 0);
        CHECK.due("sold in a yoke", home.sell(0, 1), true);
        CHECK.due("nights anew", home.of(0, 5), 0);
        oxIs(home, 0, 10, 1);
        CHECK.due("sold back", home.sell(0, 0), true);
        CHECK.due("owner", home.of(0, 4), 0);
    }

    private static void whistle() {
        OxenHome home = farmyard();
        CHECK.due("farm -1", home.whistle(-1), -1);
        CHECK.due("farm 3", home.whistle(3), -1);
        CHECK.due("no step", home.about(7), 0);
        CHECK.due("none is at a field", home.whistle(0), 0);
        CHECK.due("a step", home.about(7), 1);
        home.yoke(0, 1, 0);
        home.yoke(2, 3, 1);
        CHECK.due("of home or second", home.whistle(2), 12);
        oxIs(home, 2, 2, -1);
        oxIs(home, 3, 0, -1);
        oxIs(home, 0, 10, 1);
        home.yoke(2, 4, 1);
        CHECK.due("one of each yoke", home.whistle(0), 5);
        oxIs(home, 0, 0, -1);
        oxIs(home, 1, 10, -1);
        oxIs(home, 2, 2, -1);
        oxIs(home, 4, 11, -1);
        CHECK.due("those who are loose", home.whistle(1), 18);
        oxIs(home, 1, 1, -1);
        oxIs(home, 4, 1, -1);
        home.sell(0, 1);
        home.drive(0, 2);
        home.yoke(0, 1, 1);
        CHECK.due("home is not where it came from", home.whistle(0), 1);
        oxIs(home, 0, 0, -1);
    }

    private static void whistleByLaw() {
        OxenHome home = farmyard();
        Check.rule(home, "heeds pitch<ear*2;second strength>4 or hour>6;");
        home.yoke(0, 1, 0);
        home.yoke(2, 3, 0);
        CHECK.due("pitch 4", home.whistle(1), 12);
        oxIs(home, 2, 0, -1);
        oxIs(home, 3, 2, -1);
        home.plough();
        CHECK.due("pitch 2", home.whistle(0), 2);
        oxIs(home, 1, 1, -1);
        oxIs(home, 0, 10, -1);
        home.by(-1);
        CHECK.due("without a text", home.whistle(1), 1);
        oxIs(home, 0, 0, -1);
        Check.rule(home, "second 1=1;");
        home.yoke(0, 1, 0);
        CHECK.due("own without heeds", home.whistle(0), 1);
        oxIs(home, 0, 1, -1);
    }

    /** That the lower OX goes and so sets its mate loose does not alter what the mate heeds. */
    private static void whistleAsTheyStand() {
        OxenHome home = farmyard();
        Check.rule(home, "heeds ox=0 or yoked=0;second yoked=1;");
        home.yoke(0, 3, 0);
        CHECK.due("only the first", home.whistle(0), 1);
        oxIs(home, 0, 1, -1);
        oxIs(home, 3, 10, -1);
        CHECK.due("then the second", home.whistle(0), 8);
        oxIs(home, 3, 0, -1);
        Check.rule(home, "heeds 1=1;second yoked=1;");
        home.yoke(0, 3, 0);
        CHECK.due("both", home.whistle(0), 9);
        oxIs(home, 0, 1, -1);
        oxIs(home, 3, 2, -1);
    }

    private static void plough() {
        OxenHome home = farmyard();
        CHECK.due("without a yoke", home.plough(), 0);
        CHECK.due("hour", home.about(3), 7);
        CHECK.due("a step", home.about(7), 1);
        home.yoke(4, 0, 0);
        home.yoke(1, 2, 0);
        home.yoke(3, 3, 1);
        CHECK.due("two on a field", home.plough(), 19);
        CHECK.due("left", home.about(20), 11);
        CHECK.due("the rest", home.plough(), 11);
        CHECK.due("left", home.about(20), 0);
        CHECK.due("nothing", home.plough(), 0);
        CHECK.due("untouched", home.about(21), 50);
        for (int hour = 10; hour < 24; hour++) {
            home.plough();
            CHECK.due("hour", home.about(3), hour + 1 == 24 ? 0 : hour + 1);
        }
        CHECK.due("steps", home.about(7), 20);
        home = farmyard();
        home.yoke(0, 1, 0);
        home.yoke(2, 3, 0);
        home.loose(1);
        CHECK.due("those who are loose plough nothing", home.plough(), 11);
        home.loose(2);
        CHECK.due("all are loose", home.plough(), 0);
        CHECK.due("left", home.about(20), 19);
    }

    private static void ploughByLaw() {
        OxenHome home = farmyard();
        Check.rule(home, "work strength*2-weaker+soil-hour;");
        home.yoke(0, 4, 1);
        CHECK.due("20 - 3 + 7 - 6", home.plough(), 18);
        CHECK.due("an hour later", home.plough(), 17);
        CHECK.due("left", home.about(21), 15);
        CHECK.due("the rest", home.plough(), 15);
        home = farmyard();
        Check.rule(home, "work 0-5;");
        home.yoke(0, 4, 1);
        CHECK.due("0 at least", home.plough(), 0);
        CHECK.due("left", home.about(21), 50);
        Check.rule(home, "work 100;");
        home.field(0, 0, 0, 99);
        home.yoke(1, 2, 2);
        CHECK.due("99 and 50", home.plough(), 149);
        home = farmyard();
        Check.rule(home, "slip 1;");
        home.yoke(0, 4, 1);
        CHECK.due("without work", home.plough(), 10);
    }

    private static void night() {
        OxenHome home = farmyard();
        CHECK.due("none", home.night(), 0);
        CHECK.due("a step", home.about(7), 1);
        CHECK.due("hour", home.about(3), 6);
        home.sell(0, 1);
        home.sell(1, 2);
        home.night();
        CHECK.due("not at its owner", home.of(0, 5), 0);
        home.drive(0, 1);
        home.drive(1, 2);
        home.night();
        home.drive(1, 0);
        home.night();
        CHECK.due("two nights", home.of(0, 5), 2);
        CHECK.due("one night", home.of(1, 5), 1);
        home.drive(1, 2);
        CHECK.due("ox 0 has learned", home.night(), 1);
        CHECK.due("home", home.of(0, 0), 1);
        CHECK.due("nights", home.of(0, 5), 0);
        CHECK.due("second stays", home.of(0, 1), 1);
        CHECK.due("ox 1 has learned", home.night(), 2);
        CHECK.due("home", home.of(1, 0), 2);
        CHECK.due("at home", home.night(), 0);
        CHECK.due("nights at home", home.of(0, 5), 0);
        home.yoke(0, 1, 0);
        CHECK.due("goes to its new home", home.whistle(2), 2);
        oxIs(home, 1, 2, -1);
        home.sell(2, 0);
        home.drive(2, 0);
        home.sell(3, 1);
        home.drive(3, 1);
        home.night();
        home.night();
        CHECK.due("two learn at once", home.night(), 12);
    }

    private static void undo() {
        OxenHome home = farmyard();
        CHECK.due("nothing yet", home.undo(), -1);
        home.plough();
        CHECK.due("the first", home.undo(), 0);
        CHECK.due("hour", home.about(3), 6);
        CHECK.due("none is left", home.undo(), -1);
        for (int i = 0; i < 25; i++) {
            home.plough();
        }
        CHECK.due("steps", home.about(7), 20);
        CHECK.due("hour", home.about(3), 7);
        for (int left = 19; left >= 0; left--) {
            CHECK.due("left", home.undo(), left);
            CHECK.due("steps", home.about(7), left);
        }
        CHECK.due("hour", home.about(3), 11);
        CHECK.due("no more", home.undo(), -1);
        home.plough();
        CHECK.due("steps", home.about(7), 1);
    }

    private static void undoOfEach() {
        OxenHome home = farmyard();
        home.yoke(0, 1, 0);
        home.loose(0);
        home.drive(0, 2);
        home.sell(0, 2);
        home.night();
        home.night();
        home.night();
        home.yoke(2, 3, 1);
        home.plough();
        home.whistle(0);
        oxIs(home, 2, 2, -1);
        CHECK.due("whistle", home.undo(), 9);
        oxIs(home, 2, 11, 3);
        oxIs(home, 3, 11, 2);
        CHECK.due("furrows", home.about(21), 39);
        CHECK.due("plough", home.undo(), 8);
        CHECK.due("furrows", home.about(21), 50);
        CHECK.due("hour", home.about(3), 6);
        CHECK.due("yoke", home.undo(), 7);
        oxIs(home, 2, 2, -1);
        CHECK.due("home", home.of(0, 0), 2);
        CHECK.due("night", home.undo(), 6);
        CHECK.due("home", home.of(0, 0), 0);
        CHECK.due("nights", home.of(0, 5), 2);
        home.undo();
        home.undo();
        CHECK.due("nights", home.of(0, 5), 0);
        CHECK.due("sell", home.undo(), 3);
        CHECK.due("owner", home.of(0, 4), 0);
        oxIs(home, 0, 2, -1);
        CHECK.due("drive", home.undo(), 2);
        oxIs(home, 0, 10, -1);
        CHECK.due("loose", home.undo(), 1);
        oxIs(home, 0, 10, 1);
        oxIs(home, 1, 10, 0);
        CHECK.due("yoke", home.undo(), 0);
        oxIs(home, 0, 0, -1);
        oxIs(home, 1, 1, -1);
    }

    private static void undoLeavesWhatWasTold() {
        OxenHome home = farmyard();
        home.plough();
        home.farm(1, 2, 3);
        home.field(2, 2, 2, 22);
        home.ox(3, 0, 8, 8);
        home.call(4, 3);
        Check.rule(home, "work 20;");
        home.feed(1, 2, 3, 4, 5);
        home.yoke(5, 0, 2);
        home.plough();
        CHECK.due("furrows", home.about(22), 2);
        CHECK.due("undo", home.undo(), 2);
        CHECK.due("furrows", home.about(22), 22);
        CHECK.due("undo", home.undo(), 1);
        CHECK.due("undo", home.undo(), 0);
        CHECK.due("hour", home.about(3), 6);
        CHECK.due("farms", home.about(0), 4);
        CHECK.due("fields", home.about(1), 3);
        CHECK.due("oxen", home.about(2), 6);
        CHECK.due("texts", home.about(4), 1);
        CHECK.due("the text", home.about(5), 0);
        CHECK.due("calls", home.about(6), 1);
        CHECK.due("bytes", home.about(8), 20);
        CHECK.due("furrows", home.about(22), 22);
        int[] due = {3, 0, 8, 8, 3, 0, 3, -1};
        for (int what = 0; what < 8; what++) {
            CHECK.due("as told " + what, home.of(5, what), due[what]);
        }
        home.hush();
        home.plough();
        home.by(-1);
        home.undo();
        CHECK.due("no calls come back", home.about(6), 0);
        CHECK.due("no text comes back", home.about(5), -1);
    }

    private static void image() {
        OxenHome home = farmyard();
        CHECK.due("back to nothing", home.back(), 6);
        CHECK.due("farms", home.about(0), 0);
        home = farmyard();
        home.plough();
        CHECK.due("image", home.image(), 7);
        home.plough();
        CHECK.due("hour", home.about(3), 8);
        CHECK.due("back", home.back(), 7);
        CHECK.due("hour", home.about(3), 7);
        home.plough();
        home.plough();
        CHECK.due("back again", home.back(), 7);
        CHECK.due("no step", home.about(7), 1);
        CHECK.due("undo", home.undo(), 0);
        CHECK.due("back from there", home.back(), 7);
        CHECK.due("steps", home.about(7), 1);
        home.plough();
        CHECK.due("another image", home.image(), 8);
        home.plough();
        CHECK.due("back to it", home.back(), 8);
    }

    private static void imageHoldsAll() {
        OxenHome home = farmyard();
        home.yoke(0, 1, 0);
        home.plough();
        home.sell(2, 1);
        home.call(9, 2);
        home.image();
        home.feed(1, 2, 3, 4, 5);
        home.farm(1, 1, 1);
        home.field(1, 1, 1, 1);
        home.ox(0, -1, 1, 1);
        home.call(5, 0);
        home.whistle(0);
        for (int i = 0; i < 30; i++) {
            home.night();
        }
        home.hush();
        home.call(4, 1);
        Check.fill(home, "wor");
        home.text();
        home.feed(1, 2, 3, 4, 5);
        CHECK.due("back", home.back(), 7);
        int[] due = {3, 2, 5, 7, 0, -1, 1, 3, 20};
        for (int what = 0; what < due.length; what++) {
            CHECK.due("about " + what, home.about(what), due[what]);
        }
        CHECK.due("the fault stays", home.fault(0), 1);
        CHECK.due("its place stays", home.fault(1), 0);
        CHECK.due("furrows", home.about(20), 23);
        CHECK.due("no field more", home.about(22), -2);
        oxIs(home, 0, 10, 1);
        CHECK.due("owner", home.of(2, 4), 1);
        CHECK.due("the call is back", home.stay(2, 3, 1, 5, false), 2);
        CHECK.due("undo sell", home.undo(), 2);
        CHECK.due("owner", home.of(2, 4), 2);
        CHECK.due("undo plough", home.undo(), 1);
        CHECK.due("furrows", home.about(20), 30);
        CHECK.due("undo yoke", home.undo(), 0);
        oxIs(home, 0, 0, -1);
        CHECK.due("a farm anew", home.farm(2, 2, 9), 3);
        CHECK.due("its pitch", home.about(13), 9);
    }

    private static void imageHoldsTexts() {
        OxenHome home = farmyard();
        Check.rule(home, "work 1;");
        home.image();
        Check.rule(home, "work 2;");
        Check.tell(home, "work (;");
        home.yoke(0, 1, 0);
        CHECK.due("the later text", home.plough(), 2);
        home.back();
        CHECK.due("texts", home.about(4), 1);
        CHECK.due("the text", home.about(5), 0);
        CHECK.due("no such text", home.by(1), false);
        home.yoke(0, 1, 0);
        CHECK.due("the earlier text", home.plough(), 1);
        CHECK.due("a text anew", Check.tell(home, "work 3;"), 1);
        home.by(1);
        CHECK.due("its work", home.plough(), 3);
        home.by(0);
        CHECK.due("the first's work", home.plough(), 1);
    }
}
