import java.io.IOException;

/** What stands under "Terms", sentence by sentence, at the bounds that each names. */
public final class TermBoundsTest {
    private static final Check CHECK = new Check("TermBoundsTest");

    public static void main(String[] args) throws IOException {
        Document document = new Document();
        calls();
        document.covered(CHECK, "An object is used", "## The public face");
        farms();
        fields();
        oxen();
        yokes();
        hours();
        whistle();
        whistleAllAsTheyStand();
        whistleWithout();
        whistleToSecond();
        whistleUnyokes();
        own();
        hour();
        work();
        furrowsLeft();
        midnight();
        yoked();
        loosed();
        sold();
        night();
        nightsOfThree();
        driven();
        steps();
        twentySteps();
        asAheadOfIt();
        document.covered(CHECK, "FARMS 0 .. 4", "==== II.");
        CHECK.close();
    }

    private static void oxIs(OxenHome home, int ox, int at, int mate) {
        CHECK.due("where ox " + ox + " is", home.of(ox, 6), at);
        CHECK.due("the mate of ox " + ox, home.of(ox, 7), mate);
    }

    private static void calls() {
        CHECK.quote("An object is used for at most 512 calls after it has been made; "
            + "what later calls answer is free.");
        OxenHome home = new OxenHome();
        for (int call = 1; call < 512; call++) {
            CHECK.due("call " + call, home.plough(), 0);
        }
        CHECK.due("call 512", home.about(3), (6 + 511) % 24);
    }

    private static void farms() {
        CHECK.quote("FARMS 0 .. 4 (told one by one) at x, y (0 .. 19 each), PITCH (0 .. 9).");
        OxenHome home = new OxenHome();
        for (int farm = 0; farm < 5; farm++) {
            CHECK.due("whistle ahead of it", home.whistle(farm), -1);
            CHECK.due("farm", home.farm(farm, farm, farm * 2 + 1), farm);
            CHECK.due("whistle behind it", home.whistle(farm), 0);
            CHECK.due("pitch", home.about(10 + farm), farm * 2 + 1);
        }
        CHECK.due("farm 5", home.farm(1, 1, 1), -1);
        home = new OxenHome();
        CHECK.due("x 20", home.farm(20, 0, 0), -1);
        CHECK.due("y 20", home.farm(0, 20, 0), -1);
        CHECK.due("x -1", home.farm(-1, 0, 0), -1);
        CHECK.due("y -1", home.farm(0, -1, 0), -1);
        CHECK.due("pitch 10", home.farm(0, 0, 10), -1);
        CHECK.due("pitch -1", home.farm(0, 0, -1), -1);
        CHECK.due("least of all", home.farm(0, 0, 0), 0);
        CHECK.due("most of all", home.farm(19, 19, 9), 1);
        CHECK.due("at one place", home.farm(19, 19, 9), 2);
    }

    private static void fields() {
        CHECK.quote("FIELDS 0 .. 3 (told one by one) at x, y, SOIL (0 .. 9), FURROWS (0 .. 99: left to plough).");
        OxenHome home = new OxenHome();
        home.farm(0, 0, 0);
        home.ox(0, -1, 1, 1);
        home.ox(0, -1, 1, 1);
        for (int field = 0; field < 4; field++) {
            CHECK.due("a yoke ahead of it", home.yoke(0, 1, field), false);
            CHECK.due("field", home.field(field, field, field * 3, field * 33), field);
            CHECK.due("furrows", home.about(20 + field), field * 33);
            CHECK.due("a yoke behind it", home.yoke(0, 1, field), true);
            oxIs(home, 0, 10 + field, 1);
            home.undo();
        }
        CHECK.due("field 4", home.field(1, 1, 1, 1), -1);
        home = new OxenHome();
        int[][] off = {{-1, 0, 0, 0}, {20, 0, 0, 0}, {0, -1, 0, 0}, {0, 20, 0, 0}, {0, 0, -1, 0}, {0, 0, 10, 0},
            {0, 0, 0, -1}, {0, 0, 0, 100}};
        for (int[] row : off) {
            CHECK.due("field of others", home.field(row[0], row[1], row[2], row[3]), -1);
        }
        CHECK.due("least of all", home.field(0, 0, 0, 0), 0);
        CHECK.due("most of all", home.field(19, 19, 9, 99), 1);
        int[] soils = {0, 9};
        int[] furrows = {0, 99};
        for (int field = 0; field < 2; field++) {
            home = new OxenHome();
            home.farm(0, 0, 0);
            home.field(0, 0, soils[field], 50);
            home.field(0, 0, 5, furrows[field]);
            home.ox(0, -1, 1, 1);
            home.ox(0, -1, 1, 1);
            Check.rule(home, "work soil*11;");
            CHECK.due("soil " + soils[field], home.stay(0, 1, 0, 1, true), Math.min(50, soils[field] * 11));
            CHECK.due("left to plough", home.stay(0, 1, 1, 24, true), furrows[field]);
        }
    }

    private static void oxen() {
        CHECK.quote("OXEN 0 .. 7 (told one by one): HOME (a FARM), SECOND (a FARM or NONE), STRENGTH (1 .. 9), "
            + "EAR (0 .. 9); OWNER (a FARM; at first HOME), NIGHTS (at first 0); AT a FARM (at first HOME) "
            + "or a FIELD (10 more than its number).");
        OxenHome home = new OxenHome();
        CHECK.due("without a farm", home.ox(0, -1, 1, 0), -1);
        for (int farm = 0; farm < 5; farm++) {
            home.farm(farm, farm, farm);
        }
        for (int field = 0; field < 4; field++) {
            home.field(field, field, field, field);
        }
        int[][] told = {{4, -1, 1, 0}, {0, 4, 9, 9}, {3, 3, 5, 5}, {2, 0, 2, 7}, {1, 2, 8, 3}, {4, 4, 4, 4},
            {0, -1, 6, 6}, {3, 1, 7, 1}};
        for (int ox = 0; ox < 8; ox++) {
            CHECK.due("of it ahead of it", home.of(ox, 0), -2);
            CHECK.due("ox", home.ox(told[ox][0], told[ox][1], told[ox][2], told[ox][3]), ox);
            for (int what = 0; what < 4; what++) {
                CHECK.due("of " + ox + " " + what, home.of(ox, what), told[ox][what]);
            }
            CHECK.due("owner at first", home.of(ox, 4), told[ox][0]);
            CHECK.due("nights at first", home.of(ox, 5), 0);
            CHECK.due("at its home at first", home.of(ox, 6), told[ox][0]);
            CHECK.due("without a yoke at first", home.of(ox, 7), -1);
        }
        for (int field = 0; field < 4; field++) {
            home.yoke(2 * field, 2 * field + 1, field);
            CHECK.due("at a field", home.of(2 * field, 6), 10 + field);
            CHECK.due("at a field", home.of(2 * field + 1, 6), 10 + field);
        }
        CHECK.due("ox 8", home.ox(0, 0, 1, 1), -1);
        home = Yards.farmyard();
        int[][] off = {{-1, 0, 1, 1}, {3, 0, 1, 1}, {0, -2, 1, 1}, {0, 3, 1, 1}, {0, 0, 0, 1}, {0, 0, 10, 1},
            {0, 0, 1, -1}, {0, 0, 1, 10}};
        for (int[] row : off) {
            CHECK.due("ox of others", home.ox(row[0], row[1], row[2], row[3]), -1);
        }
    }

    private static void yokes() {
        CHECK.quote("YOKES: two OXEN AT one FIELD; an OX is in one at most.");
        OxenHome home = Yards.farmyard();
        home.yoke(0, 1, 0);
        for (int ox = 2; ox < 5; ox++) {
            CHECK.due("the lower once more", home.yoke(0, ox, 0), false);
            CHECK.due("the higher once more", home.yoke(ox, 1, 0), false);
            CHECK.due("elsewhere", home.yoke(ox, 0, 1), false);
        }
        CHECK.due("two yokes at one field", home.yoke(2, 3, 0), true);
        CHECK.due("two of two yokes", home.yoke(1, 2, 0), false);
        oxIs(home, 0, 10, 1);
        oxIs(home, 1, 10, 0);
        oxIs(home, 2, 10, 3);
        oxIs(home, 3, 10, 2);
    }

    private static void hours() {
        CHECK.quote("HOUR (0 .. 23; at first 6).");
        OxenHome home = new OxenHome();
        CHECK.due("at first", home.about(3), 6);
        for (int i = 1; i <= 48; i++) {
            home.plough();
            CHECK.due("hour", home.about(3), (6 + i) % 24);
        }
    }

    private static void whistle() {
        CHECK.quote("A WHISTLE from a FARM (its PITCH): each OX that is AT a FIELD,");
        OxenHome home = Yards.farmyard();
        Check.rule(home, "heeds pitch=4;");
        CHECK.due("those at farms stay", home.whistle(1), 0);
        home.yoke(0, 2, 0);
        home.yoke(1, 3, 1);
        home.loose(1);
        CHECK.due("of another pitch", home.whistle(0), 0);
        CHECK.due("of another pitch", home.whistle(2), 0);
        CHECK.due("those at fields, in a yoke or not", home.whistle(1), 15);
        CHECK.due("they are at farms now", home.whistle(1), 0);
        home = Yards.farmyard();
        home.farm(19, 19, 9);
        home.farm(19, 0, 0);
        Check.rule(home, "heeds farm=4 and far=23 and pitch=0 or farm=3 and far=26 and pitch=9;");
        home.yoke(0, 2, 0);
        home.yoke(1, 3, 1);
        CHECK.due("far from field 0", home.whistle(4), 0);
        CHECK.due("far from field 1", home.whistle(3), 10);
    }

    private static void whistleAllAsTheyStand() {
        CHECK.quote("all as they stand:");
        for (int one = 0; one < 4; one++) {
            for (int other = one + 1; other < 4; other++) {
                OxenHome home = Yards.farmyard();
                Check.rule(home, "heeds yoked=1;");
                home.yoke(other, one, 0);
                CHECK.due("both of a yoke", home.whistle(0), 1 << one | 1 << other);
                home = Yards.farmyard();
                Check.rule(home, "heeds yoked=0 or ox=" + one + ";second yoked=1;");
                home.yoke(one, other, 0);
                CHECK.due("the lower alone", home.whistle(0), 1 << one);
                oxIs(home, other, 10, -1);
                home = Yards.farmyard();
                Check.rule(home, "heeds yoked=0 or ox=" + other + ";second yoked=1;");
                home.yoke(one, other, 0);
                CHECK.due("the higher alone", home.whistle(0), 1 << other);
                oxIs(home, one, 10, -1);
            }
        }
    }

    private static void whistleWithout() {
        CHECK.quote("if heeds is so (without: OWN),");
        OxenHome home = Yards.farmyard();
        home.yoke(0, 1, 0);
        home.yoke(2, 3, 1);
        CHECK.due("without a text", home.whistle(1), 3);
        home.undo();
        Check.rule(home, "second 1=2;");
        CHECK.due("without a clause", home.whistle(1), 3);
        home.undo();
        Check.rule(home, "heeds 1=2;");
        CHECK.due("not so", home.whistle(1), 0);
        Check.rule(home, "heeds 1=1;");
        CHECK.due("so", home.whistle(1), 15);
    }

    private static void whistleToSecond() {
        CHECK.quote("it goes to its SECOND, if it has one and second is so (without: not), else HOME;");
        OxenHome home = Yards.farmyard();
        home.yoke(0, 1, 0);
        home.yoke(2, 4, 1);
        home.image();
        home.whistle(1);
        CHECK.due("without a text", home.of(0, 6), 0);
        home.back();
        Check.rule(home, "second 1=1;heeds 1=1;");
        CHECK.due("all go", home.whistle(2), 23);
        oxIs(home, 0, 1, -1);
        oxIs(home, 1, 1, -1);
        oxIs(home, 2, 0, -1);
        oxIs(home, 4, 1, -1);
        home.back();
        Check.rule(home, "heeds 1=1;second ox=2;");
        home.whistle(0);
        oxIs(home, 0, 0, -1);
        oxIs(home, 1, 1, -1);
        oxIs(home, 2, 0, -1);
        home.back();
        Check.rule(home, "heeds 1=1;");
        home.whistle(0);
        oxIs(home, 0, 0, -1);
        oxIs(home, 2, 2, -1);
        home.back();
        Check.rule(home, "second 1=1;");
        CHECK.due("second alone does not make it go", home.whistle(2), 4);
        oxIs(home, 2, 0, -1);
    }

    private static void whistleUnyokes() {
        CHECK.quote("its YOKE is none any more.");
        OxenHome home = Yards.farmyard();
        home.yoke(0, 2, 1);
        CHECK.due("one goes", home.whistle(1), 1);
        oxIs(home, 0, 0, -1);
        oxIs(home, 2, 11, -1);
        CHECK.due("a new yoke with the one left", home.yoke(3, 2, 1), true);
        home.undo();
        CHECK.due("the one left ploughs nothing", home.plough(), 0);
        CHECK.due("the one left is no yoke to loose", home.loose(2), false);
        CHECK.due("the one left is driven", home.drive(2, 1), true);
        home = Yards.crowded();
        home.by(-1);
        home.loose(5);
        home.loose(2);
        home.image();
        // 2, 4, 5 and 6 are at fields: 2 is of farms 2 and 0, 4 of 1, 5 and 6 of 4 and 3.
        int[] going = {4, 16, 0, 96, 0};
        for (int farm = 0; farm < 5; farm++) {
            CHECK.due("whistle of " + farm, home.whistle(farm), going[farm]);
        }
        CHECK.due("at its home", home.of(5, 6), 4);
        CHECK.due("at its home", home.of(6, 6), 3);
        int[] furrows = {30, 38, 10, 4};
        for (int field = 0; field < 4; field++) {
            CHECK.due("furrows that a whistle leaves", home.about(20 + field), furrows[field]);
        }
    }

    private static void own() {
        CHECK.quote("OWN: the FARM is its HOME or SECOND.");
        OxenHome home = Yards.farmyard();
        home.sell(1, 0);
        home.drive(1, 2);
        home.yoke(1, 3, 0);
        int[][] due = {{1, 1, 0}, {0, 1, 0}, {1, 0, 1}, {1, 0, 1}, {0, 1, 0}};
        for (int ox = 0; ox < 5; ox++) {
            for (int farm = 0; farm < 3; farm++) {
                CHECK.due("own of " + ox, home.heeds(ox, farm, 0, 0, false), due[ox][farm] == 1);
            }
        }
        CHECK.due("its owner is not its own", home.whistle(0), 8);
        home = Yards.farmyard();
        home.sell(1, 0);
        home.drive(1, 0);
        for (int i = 0; i < 3; i++) {
            CHECK.due("its home yet", home.heeds(1, 1, 0, 0, false), true);
            CHECK.due("not its home yet", home.heeds(1, 0, 0, 0, false), false);
            home.night();
        }
        CHECK.due("not its home any more", home.heeds(1, 1, 0, 0, false), false);
        CHECK.due("its home now", home.heeds(1, 0, 0, 0, false), true);
    }

    private static void hour() {
        CHECK.quote("AN HOUR: each YOKE, that of the lowest OX first:");
        OxenHome home = Yards.farmyard();
        home.yoke(4, 0, 0);
        home.yoke(3, 1, 0);
        CHECK.due("both yokes", home.plough(), 20);
        CHECK.due("they share what is left", home.plough(), 10);
        home = Yards.farmyard();
        home.yoke(4, 0, 0);
        home.yoke(3, 1, 1);
        CHECK.due("each its field", home.plough(), 20);
        CHECK.due("field 0", home.about(20), 20);
        CHECK.due("field 1", home.about(21), 40);
        home.loose(4);
        CHECK.due("one yoke", home.plough(), 10);
        CHECK.due("field 0", home.about(20), 20);
    }

    private static void workIs(String law, int due) {
        OxenHome home = new OxenHome();
        home.farm(0, 0, 0);
        home.field(0, 0, 9, 99);
        home.field(0, 0, 0, 99);
        home.ox(0, -1, 9, 0);
        home.ox(0, -1, 1, 0);
        Check.rule(home, law);
        home.yoke(1, 0, 0);
        CHECK.due(law, home.plough(), due);
        CHECK.due("left by " + law, home.about(20), 99 - due);
        home.undo();
        CHECK.due("done by " + law, home.stay(0, 1, 0, 1, true), due);
    }

    private static void work() {
        CHECK.quote("FURROWS of its FIELD are less by work (0 at least, 99 at most; without: both STRENGTHS),");
        workIs("work 0;", 0);
        workIs("work -1;", 0);
        workIs("work -9999*9999;", 0);
        workIs("work 1;", 1);
        workIs("work 98;", 98);
        workIs("work 99;", 99);
        workIs("work 100;", 99);
        workIs("work 9999*9999;", 99);
        workIs("", 10);
        workIs("slip 5;", 10);
        workIs("work weaker;", 1);
        workIs("work strength;", 10);
        workIs("work soil;", 9);
        workIs("work hour;", 6);
        OxenHome home = Yards.farmyard();
        Check.rule(home, "work soil;");
        home.yoke(0, 1, 1);
        CHECK.due("soil of field 1", home.plough(), 7);
        home.undo();
        home.undo();
        home.yoke(2, 3, 0);
        CHECK.due("soil of field 0", home.plough(), 3);
        home.yoke(0, 4, 1);
        CHECK.due("soil of both", home.plough(), 10);
        home = Yards.farmyard();
        home.field(0, 0, 0, 99);
        home.field(0, 0, 0, 99);
        Check.rule(home, "work 0-50;");
        home.yoke(0, 1, 2);
        home.yoke(2, 3, 2);
        CHECK.due("below 0 takes nothing from the other", home.plough(), 0);
        Check.rule(home, "work 200*(strength-7)+1;");
        CHECK.due("99 of each at most", home.plough(), 99);
        CHECK.due("left", home.about(22), 0);
    }

    private static void furrowsLeft() {
        CHECK.quote("0 at least;");
        for (int furrows : new int[] {0, 1, 6, 7, 8, 13, 14, 15}) {
            OxenHome home = new OxenHome();
            home.farm(0, 0, 0);
            home.field(0, 0, 0, furrows);
            for (int i = 0; i < 4; i++) {
                home.ox(0, -1, 3 + i % 2, 0);
            }
            home.yoke(0, 1, 0);
            CHECK.due("one yoke on " + furrows, home.plough(), Math.min(7, furrows));
            CHECK.due("left", home.about(20), Math.max(0, furrows - 7));
            home.undo();
            home.yoke(2, 3, 0);
            CHECK.due("two yokes on " + furrows, home.plough(), Math.min(14, furrows));
            CHECK.due("left", home.about(20), Math.max(0, furrows - 14));
        }
    }

    private static void midnight() {
        CHECK.quote("HOUR is one more (behind 23: 0).");
        OxenHome home = Yards.farmyard();
        Check.rule(home, "work hour;");
        home.field(0, 0, 0, 99);
        home.yoke(0, 1, 2);
        for (int hour = 6; hour < 22; hour++) {
            home.plough();
        }
        home.loose(0);
        home.yoke(2, 3, 1);
        CHECK.due("at 22", home.plough(), 22);
        CHECK.due("hour", home.about(3), 23);
        CHECK.due("at 23", home.plough(), 23);
        CHECK.due("hour", home.about(3), 0);
        CHECK.due("at 0", home.plough(), 0);
        CHECK.due("hour", home.about(3), 1);
        CHECK.due("at 1", home.plough(), 1);
        home.undo();
        home.undo();
        CHECK.due("back at 0", home.about(3), 0);
        home.undo();
        CHECK.due("back at 23", home.about(3), 23);
    }

    private static void yoked() {
        CHECK.quote("YOKED: two unlike OXEN, each AT a FARM, or AT that FIELD without a YOKE: "
            + "both are AT that FIELD, a YOKE.");
        OxenHome home = Yards.farmyard();
        CHECK.due("like ones", home.yoke(3, 3, 0), false);
        CHECK.due("both at farms", home.yoke(3, 0, 0), true);
        home.loose(0);
        CHECK.due("like ones there", home.yoke(3, 3, 0), false);
        CHECK.due("one there, one at a farm", home.yoke(0, 2, 0), true);
        home.loose(2);
        CHECK.due("both there", home.yoke(3, 2, 0), true);
        oxIs(home, 3, 10, 2);
        oxIs(home, 2, 10, 3);
        oxIs(home, 0, 10, -1);
        CHECK.due("the other there with a yoke", home.yoke(0, 2, 0), false);
        CHECK.due("one there with a yoke", home.yoke(2, 0, 0), false);
        CHECK.due("one at another field", home.yoke(0, 1, 1), false);
        CHECK.due("the other at another field", home.yoke(1, 0, 1), false);
        home.drive(1, 0);
        CHECK.due("at a farm that is not its own", home.yoke(1, 4, 1), true);
        oxIs(home, 1, 11, 4);
        oxIs(home, 4, 11, 1);
    }

    private static void loosed() {
        CHECK.quote("LOOSED: an OX's YOKE is none (both stay).");
        OxenHome home = Yards.farmyard();
        home.yoke(0, 1, 1);
        home.yoke(2, 3, 1);
        CHECK.due("the higher", home.loose(3), true);
        oxIs(home, 2, 11, -1);
        oxIs(home, 3, 11, -1);
        oxIs(home, 0, 11, 1);
        CHECK.due("once more", home.loose(3), false);
        CHECK.due("its mate once more", home.loose(2), false);
        CHECK.due("the lower", home.loose(0), true);
        oxIs(home, 0, 11, -1);
        oxIs(home, 1, 11, -1);
    }

    private static void sold() {
        CHECK.quote("SOLD: OWNER is another FARM, NIGHTS 0.");
        OxenHome home = Yards.farmyard();
        CHECK.due("to its owner, its home", home.sell(0, 0), false);
        CHECK.due("to another", home.sell(0, 1), true);
        CHECK.due("to its owner, not its home", home.sell(0, 1), false);
        home.drive(0, 1);
        home.night();
        home.night();
        CHECK.due("nights", home.of(0, 5), 2);
        CHECK.due("to its owner behind two nights", home.sell(0, 1), false);
        CHECK.due("nights stay", home.of(0, 5), 2);
        CHECK.due("to a third", home.sell(0, 2), true);
        CHECK.due("nights", home.of(0, 5), 0);
        CHECK.due("home", home.of(0, 0), 0);
        CHECK.due("where it is", home.of(0, 6), 1);
        CHECK.due("to its home", home.sell(0, 0), true);
        CHECK.due("owner", home.of(0, 4), 0);
        home.sell(0, 1);
        home.night();
        home.night();
        CHECK.due("nights begin anew", home.of(0, 5), 2);
        CHECK.due("the third night", home.night(), 1);
    }

    private static void night() {
        CHECK.quote("A NIGHT: each OX that is AT its OWNER, which isn't its HOME: NIGHTS one more;");
        OxenHome home = Yards.farmyard();
        home.sell(0, 1);
        home.sell(1, 2);
        home.sell(2, 0);
        home.sell(3, 2);
        home.drive(0, 1);
        home.drive(2, 1);
        home.drive(3, 2);
        home.drive(4, 0);
        CHECK.due("the first night", home.night(), 0);
        int[] due = {1, 0, 0, 1, 0};
        for (int ox = 0; ox < 5; ox++) {
            CHECK.due("nights of " + ox, home.of(ox, 5), due[ox]);
        }
        home.yoke(0, 1, 0);
        home.drive(2, 0);
        CHECK.due("the second night", home.night(), 0);
        int[] later = {1, 0, 1, 2, 0};
        for (int ox = 0; ox < 5; ox++) {
            CHECK.due("nights of " + ox, home.of(ox, 5), later[ox]);
        }
        home.loose(0);
        home.drive(0, 1);
        CHECK.due("the third night", home.night(), 8);
        int[] last = {2, 0, 2, 0, 0};
        for (int ox = 0; ox < 5; ox++) {
            CHECK.due("nights of " + ox, home.of(ox, 5), last[ox]);
        }
        CHECK.due("hour", home.about(3), 6);
        home = Yards.farmyard();
        home.back();
        home.farm(0, 0, 0);
        for (int field = 0; field < 4; field++) {
            home.field(0, 0, 0, 11);
        }
        home.ox(0, -1, 1, 1);
        for (int i = 0; i < 4; i++) {
            CHECK.due("a night that none sleeps elsewhere", home.night(), 0);
            CHECK.due("a whistle that none hears", home.whistle(0), 0);
            CHECK.due("furrows", home.about(20 + i), 11);
        }
    }

    private static void nightsOfThree() {
        CHECK.quote("with 3: OWNER is its HOME (NIGHTS 0 then).");
        OxenHome home = Yards.farmyard();
        home.sell(0, 2);
        home.drive(0, 2);
        for (int night = 1; night <= 2; night++) {
            CHECK.due("night " + night, home.night(), 0);
            CHECK.due("home behind " + night, home.of(0, 0), 0);
            CHECK.due("nights behind " + night, home.of(0, 5), night);
        }
        CHECK.due("night 3", home.night(), 1);
        CHECK.due("home behind 3", home.of(0, 0), 2);
        CHECK.due("nights behind 3", home.of(0, 5), 0);
        CHECK.due("owner", home.of(0, 4), 2);
        CHECK.due("second", home.of(0, 1), 1);
        CHECK.due("night 4", home.night(), 0);
        CHECK.due("nights behind 4", home.of(0, 5), 0);
        home.yoke(0, 1, 0);
        CHECK.due("its new home calls it", home.whistle(2), 1);
        oxIs(home, 0, 2, -1);
        home.sell(0, 0);
        home.drive(0, 0);
        CHECK.due("nights anew", home.night() + home.night(), 0);
        CHECK.due("home again", home.night(), 1);
        CHECK.due("home", home.of(0, 0), 0);
    }

    private static void driven() {
        CHECK.quote("DRIVEN: an OX without a YOKE is AT a FARM told.");
        OxenHome home = Yards.farmyard();
        CHECK.due("to a farm that is not told", home.drive(0, 3), false);
        home.farm(1, 1, 1);
        CHECK.due("to it when it is told", home.drive(0, 3), true);
        oxIs(home, 0, 3, -1);
        home.yoke(0, 1, 0);
        CHECK.due("in a yoke", home.drive(0, 0), false);
        CHECK.due("in a yoke", home.drive(1, 0), false);
        home.loose(1);
        CHECK.due("from a field", home.drive(0, 4), false);
        CHECK.due("from a field", home.drive(0, 2), true);
        oxIs(home, 0, 2, -1);
        CHECK.due("home and owner stay", home.of(0, 0) + home.of(0, 4), 0);
    }

    private static void steps() {
        CHECK.quote("STEPS: all these (a WHISTLE, AN HOUR, ..) by hand;");
        OxenHome home = Yards.farmyard();
        CHECK.due("what is told is none", home.about(7), 0);
        home.yoke(0, 1, 0);
        CHECK.due("yoked", home.about(7), 1);
        home.loose(0);
        CHECK.due("loosed", home.about(7), 2);
        home.sell(0, 2);
        CHECK.due("sold", home.about(7), 3);
        home.night();
        CHECK.due("a night", home.about(7), 4);
        home.drive(0, 2);
        CHECK.due("driven", home.about(7), 5);
        home.whistle(1);
        CHECK.due("a whistle", home.about(7), 6);
        home.plough();
        CHECK.due("an hour", home.about(7), 7);
        home.call(8, 0);
        home.hush();
        Check.rule(home, "work 1;");
        home.by(-1);
        home.image();
        home.stay(0, 1, 0, 24, true);
        home.plan(24, 0);
        home.longest(0, 24);
        home.dark(0, 6, 3, 1, 0, 0);
        home.apart(1, 0, 0);
        home.thunder(5, 99);
        home.heeds(0, 0, 0, 0, true);
        CHECK.due("nothing else is", home.about(7), 7);
    }

    private static void twentySteps() {
        CHECK.quote("the latest 20 can be taken back, the latest first");
        for (int steps : new int[] {1, 19, 20, 21, 39, 40, 41, 60}) {
            OxenHome home = Yards.farmyard();
            for (int i = 0; i < steps; i++) {
                home.plough();
            }
            int kept = Math.min(steps, 20);
            CHECK.due("of " + steps, home.about(7), kept);
            for (int left = kept - 1; left >= 0; left--) {
                CHECK.due("undo of " + steps, home.undo(), left);
                CHECK.due("hour", home.about(3), (6 + steps - kept + left) % 24);
            }
            CHECK.due("no more of " + steps, home.undo(), -1);
            CHECK.due("hour", home.about(3), (6 + steps - kept) % 24);
        }
        OxenHome home = Yards.farmyard();
        for (int i = 0; i < 22; i++) {
            home.plough();
        }
        home.undo();
        home.undo();
        home.night();
        home.night();
        home.night();
        CHECK.due("twenty again", home.about(7), 20);
        for (int i = 0; i < 3; i++) {
            home.undo();
        }
        CHECK.due("behind the nights", home.about(3), 2);
        CHECK.due("undo", home.undo(), 16);
        CHECK.due("an hour less", home.about(3), 1);
    }

    private static void asAheadOfIt() {
        CHECK.quote("(OXEN, FURROWS, HOUR are as ahead of it; what was told since stays as told).");
        OxenHome home = new OxenHome();
        home.plough();
        home.farm(0, 0, 5);
        home.field(0, 0, 0, 44);
        home.ox(0, -1, 2, 2);
        home.ox(0, -1, 3, 3);
        home.yoke(0, 1, 0);
        home.field(1, 1, 1, 11);
        home.farm(1, 1, 6);
        home.ox(1, 0, 4, 4);
        home.plough();
        home.drive(2, 0);
        home.call(9, 1);
        CHECK.due("told text", Check.tell(home, "work 6;"), 0);
        home.by(0);
        home.feed(1, 2, 3, 4, 5);
        for (int left = 3; left >= 0; left--) {
            CHECK.due("undo", home.undo(), left);
            CHECK.due("where ox 2 is", home.of(2, 6), 1);
            CHECK.due("what ox 2 is", home.of(2, 2), 4);
            CHECK.due("where ox 0 is", home.of(0, 6), left >= 2 ? 10 : 0);
            CHECK.due("with whom", home.of(0, 7), left >= 2 ? 1 : -1);
            CHECK.due("furrows of 0", home.about(20), left >= 3 ? 39 : 44);
            CHECK.due("furrows of 1", home.about(21), 11);
            CHECK.due("hour", home.about(3), left == 3 ? 8 : left >= 1 ? 7 : 6);
        }
        int[] due = {2, 2, 3, 6, 1, 0, 1, 0, 20};
        for (int what = 0; what < due.length; what++) {
            CHECK.due("about " + what, home.about(what), due[what]);
        }
        CHECK.due("pitch of 1", home.about(11), 6);
        home.yoke(0, 2, 1);
        home.field(2, 2, 2, 22);
        home.plough();
        CHECK.due("furrows of 1", home.about(21), 5);
        home.undo();
        CHECK.due("furrows of 1", home.about(21), 11);
        CHECK.due("furrows of 2", home.about(22), 22);
    }
}
