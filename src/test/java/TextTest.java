/** Promises 5 to 9 and 19: the tape, the FAULTS of TEXTS, and what TEXTS say. */
public final class TextTest {
    private static final Check CHECK = new Check("TextTest");

    public static void main(String[] args) {
        tape();
        texts();
        tokens();
        misplaced();
        numbersAndDepth();
        clausesAndNames();
        leastFault();
        ruling();
        asks();
        sums();
        names();
        secondNames();
        heedsOfOthers();
        CHECK.close();
    }

    private static void tape() {
        OxenHome home = new OxenHome();
        CHECK.due("fault ahead of any", home.fault(0), -1);
        CHECK.due("place ahead of any", home.fault(1), -1);
        for (int i = 1; i <= 15; i++) {
            CHECK.due("feed " + i, home.feed(i, i, i, i, -1), 20 * i);
        }
        CHECK.due("feed 16", home.feed(0, 0, 0, 0, 0), -1);
        CHECK.due("bytes", home.about(8), 300);
        CHECK.due("end below", home.end(-1), -1);
        CHECK.due("end above", home.end(301), -1);
        CHECK.due("end all", home.end(300), 300);
        CHECK.due("end 281", home.end(281), 281);
        CHECK.due("end more than there are", home.end(282), -1);
        CHECK.due("feed over", home.feed(0, 0, 0, 0, 0), -1);
        CHECK.due("bytes stay", home.about(8), 281);
        CHECK.due("end 280", home.end(280), 280);
        CHECK.due("feed to the brim", home.feed(0, 0, 0, 0, 0), 300);
        CHECK.due("end 0", home.end(0), 0);
        CHECK.due("bytes", home.about(8), 0);
    }

    private static void texts() {
        OxenHome home = new OxenHome();
        CHECK.due("empty text", home.text(), 0);
        CHECK.due("no fault", home.fault(0), 0);
        CHECK.due("no place", home.fault(1), -1);
        CHECK.due("fault 2", home.fault(2), -1);
        CHECK.due("fault -1", home.fault(-1), -1);
        Check.fill(home, "work !;");
        CHECK.due("a faulty text", home.text(), -1);
        CHECK.due("the tape is empty", home.about(8), 0);
        CHECK.due("fault", home.fault(0), 1);
        CHECK.due("place", home.fault(1), 5);
        CHECK.due("blank text", Check.tell(home, " \n "), 1);
        CHECK.due("no fault again", home.fault(0), 0);
        CHECK.due("no place again", home.fault(1), -1);
        CHECK.due("text", Check.tell(home, "work 1;"), 2);
        CHECK.due("text", Check.tell(home, "work 2;"), 3);
        Check.fill(home, "work !;");
        CHECK.due("fifth text", home.text(), -1);
        CHECK.due("the tape stays", home.about(8), 7);
        CHECK.due("it is not read", home.fault(0), 0);
        CHECK.due("texts", home.about(4), 4);
        CHECK.due("no steps", home.about(7), 0);
    }

    private static void fine(String text) {
        OxenHome home = new OxenHome();
        CHECK.due("fine: " + text, Check.tell(home, text), 0);
        CHECK.due("fault of " + text, home.fault(0), 0);
        CHECK.due("place of " + text, home.fault(1), -1);
    }

    private static void bad(String text, int fault, int place) {
        OxenHome home = new OxenHome();
        CHECK.due("bad: " + text, Check.tell(home, text), -1);
        CHECK.due("fault of " + text, home.fault(0), fault);
        CHECK.due("place of " + text, home.fault(1), place);
        CHECK.due("texts after " + text, home.about(4), 0);
    }

    private static void tokens() {
        fine("work 1;");
        fine("\n work\n1 \n;\n");
        fine("work hour+strength*weaker/soil-(3);");
        fine("heeds 1<2;second 1<=2;slip 1;calls 1;work 1;");
        fine("work 1;calls 1;slip 1;second 1#2;heeds 1>=2 or 3=4 and not 5>6;");
        fine("heeds 1<-2;");
        fine("work 2--3;");
        fine("work 00000000000000000000009999;");
        fine("work 1;" + " ".repeat(293));
        bad("work 1;\t", 1, 7);
        bad("work\t1;", 1, 4);
        bad("work 1\0;", 1, 6);
        bad("work \u00e9;", 1, 5);
        bad("Work 1;", 1, 0);
        bad("works 1;", 1, 0);
        bad("wor k 1;", 1, 0);
        bad("workz 1;", 1, 0);
        bad("workA 1;", 1, 0);
        bad("workZ 1;", 1, 0);
        bad("work@1;", 1, 4);
        bad("work[1;", 1, 4);
        bad("work`1;", 1, 4);
        bad("work{1;", 1, 4);
        bad("work 1:", 1, 6);
        bad("work 1,", 1, 6);
        bad("work .1;", 1, 5);
        bad("work1;s", 1, 6);
        bad("work 1a;", 1, 6);
        bad("heeds 1=<2;", 1, 8);
        bad("heeds 1< =2;", 1, 9);
        bad("heeds 1<>2;", 1, 8);
        bad("heeds 1==2;", 1, 8);
        bad("work hou;", 1, 5);
        bad("work hours;", 1, 5);
        bad("work HOUR;", 1, 5);
        bad("work hour" + " ".repeat(291), 1, 300);
        bad("work " + "1+".repeat(147) + "1", 1, 300);
        fine("work " + "1+".repeat(146) + "1;");
    }

    private static void misplaced() {
        bad(";", 1, 0);
        bad("1;", 1, 0);
        bad("hour 1;", 1, 0);
        bad("or 1;", 1, 0);
        bad("work", 1, 4);
        bad("work ;", 1, 5);
        bad("work 1", 1, 6);
        bad("work 1 \n", 1, 8);
        bad("work 1;;", 1, 7);
        bad("work 1 2;", 1, 7);
        bad("work 1+;", 1, 7);
        bad("work +1;", 1, 5);
        bad("work 1**2;", 1, 7);
        bad("work 1<2;", 1, 6);
        bad("work 1 or 2;", 1, 7);
        bad("work not 1;", 1, 5);
        bad("work work 1;", 1, 5);
        bad("work ();", 1, 6);
        bad("work (1;", 1, 7);
        bad("work 1);", 1, 6);
        bad("work (1<2);", 1, 7);
        bad("work (1 2);", 1, 8);
        bad("heeds 1;", 1, 7);
        bad("heeds (1<2);", 1, 8);
        bad("heeds 1<2<3;", 1, 9);
        bad("heeds 1<2 or;", 1, 12);
        bad("heeds 1<2 and;", 1, 13);
        bad("heeds 1<2 not 1<2;", 1, 10);
        bad("heeds or 1<2;", 1, 6);
        bad("heeds not;", 1, 9);
        bad("heeds 1<not 2;", 1, 8);
        bad("heeds -not 1<2;", 1, 7);
        bad("calls 1<2;", 1, 7);
        bad("slip 1 and 2;", 1, 7);
    }

    private static void numbersAndDepth() {
        fine("work 9999;");
        bad("work 10000;", 2, 5);
        bad("work 1+99999999999999999999;", 2, 7);
        bad("work 4294967296;", 2, 5);
        bad("work 18446744073709551616;", 2, 5);
        fine("work ((((((((1))))))));");
        bad("work (((((((((1)))))))));", 3, 13);
        fine("work --------1;");
        bad("work ---------1;", 3, 13);
        bad("work -(-(-(-(-(1)))));", 3, 13);
        fine("work -(-(-(-(1))));");
        fine("work ((((((((1))))))))+((((((((2))))))));");
        fine("work --------1---------1;");
        bad("work --------1----------1;", 3, 23);
        fine("work (-(-(-(-1))))*(-(-(-(-2))));");
        fine("heeds not not not not not not not not 1<2;");
        bad("heeds not not not not not not not not not 1<2;", 3, 38);
        bad("heeds not not not not not not not not -1<2;", 3, 38);
        bad("heeds not not not not not not not not 1<-2;", 3, 40);
        bad("heeds not not not not not not not not 1<(2);", 3, 40);
        fine("heeds not not not not not not not -1<-2 and ((((((((1))))))))<2;");
        fine("heeds not not not not not not not not 1<2 or --------1<2;");
        bad("heeds not not not not not not not not 1<2 or ---------1<2;", 3, 53);
        bad("work (-9---------1);", 3, 16);
        fine("work (-9--------1);");
    }

    private static void clausesAndNames() {
        bad("heeds 1<2;heeds 1<2;", 4, 10);
        bad("second 1<2; second 1<2;", 4, 12);
        bad("slip 1;work 1;slip 2;", 4, 14);
        bad("calls 1;\ncalls", 4, 9);
        bad("work 1;work", 4, 7);
        String[] all = {"hour", "pitch", "farm", "ear", "own", "far", "yoked", "ox", "strength", "weaker", "soil"};
        for (int i = 0; i < all.length; i++) {
            boolean mine = i <= 8;
            named("heeds 1<", all[i], mine);
            named("second 1<", all[i], mine);
            named("slip ", all[i], mine);
            named("calls ", all[i], i <= 2);
            named("work ", all[i], i == 0 || i >= 8);
        }
    }

    private static void named(String ahead, String name, boolean mine) {
        if (mine) {
            fine(ahead + name + ";");
        } else {
            bad(ahead + name + ";", 5, ahead.length());
        }
    }

    /** The first token that is come to; of one token the least fault. */
    private static void leastFault() {
        bad("10000", 1, 0);
        bad("work 1 10000;", 1, 7);
        bad("work 1 pitch;", 1, 7);
        bad("work pitch 10000;", 5, 5);
        bad("work 10000 pitch;", 2, 5);
        bad("work 1 ((((((((((", 1, 7);
        bad("work (((((((((10000", 3, 13);
        bad("work 1 work 1;", 1, 7);
        bad("work 1;work pitch;", 4, 7);
        bad("work pitch;work 1;", 5, 5);
    }

    private static OxenHome farmyard() {
        OxenHome home = new OxenHome();
        home.farm(2, 3, 5);
        home.farm(10, 0, 7);
        home.farm(0, 19, 1);
        home.field(4, 1, 6, 60);
        home.ox(0, 1, 4, 8);
        home.ox(1, -1, 9, 2);
        return home;
    }

    private static void ruling() {
        OxenHome home = farmyard();
        CHECK.due("by 0 without", home.by(0), false);
        CHECK.due("by none", home.by(-1), true);
        CHECK.due("by -2", home.by(-2), false);
        Check.tell(home, "heeds 1=1;");
        Check.tell(home, "heeds 1=2;");
        CHECK.due("the text", home.about(5), -1);
        CHECK.due("own without a text", home.heeds(1, 0, 5, 0, false), false);
        CHECK.due("by 2", home.by(2), false);
        CHECK.due("by 0", home.by(0), true);
        CHECK.due("the text", home.about(5), 0);
        CHECK.due("by the first", home.heeds(1, 0, 5, 0, false), true);
        CHECK.due("by 1", home.by(1), true);
        CHECK.due("by the second", home.heeds(0, 0, 5, 0, false), false);
        CHECK.due("by 7", home.by(7), false);
        CHECK.due("the text stays", home.about(5), 1);
        CHECK.due("by none", home.by(-1), true);
        CHECK.due("own again", home.heeds(0, 0, 5, 0, false), true);
        CHECK.due("own by second", home.heeds(0, 1, 5, 0, false), true);
        CHECK.due("not own", home.heeds(0, 2, 5, 0, false), false);
        CHECK.due("no steps", home.about(7), 0);
        Check.rule(home, "work 5;");
        CHECK.due("own without heeds", home.heeds(0, 0, 5, 0, false), true);
        CHECK.due("not own without heeds", home.heeds(1, 0, 5, 0, false), false);
    }

    private static void heedsSo(String either, boolean due) {
        OxenHome home = farmyard();
        Check.rule(home, "heeds " + either + ";");
        CHECK.due(either, home.heeds(0, 1, 3, 0, true), due);
    }

    private static void asks() {
        heedsSo("1<2", true);
        heedsSo("2<2", false);
        heedsSo("2<=2", true);
        heedsSo("3<=2", false);
        heedsSo("3>2", true);
        heedsSo("2>2", false);
        heedsSo("2>=2", true);
        heedsSo("1>=2", false);
        heedsSo("2=2", true);
        heedsSo("1=2", false);
        heedsSo("2#2", false);
        heedsSo("1#2", true);
        heedsSo("not 1=2", true);
        heedsSo("not not 1=2", false);
        heedsSo("not 1=1", false);
        heedsSo("not not 1=1", true);
        heedsSo("1<=2 and 2>=1 and 1#2 and 1<2 and 2>1 and 1=1 and not 1=2", true);
        heedsSo("1=1 or 1=2 and 1=2", true);
        heedsSo("1=2 and 1=2 or 1=1", true);
        heedsSo("1=2 and 1=1 or 1=2", false);
        heedsSo("1=1 and 1=1 and 1=2", false);
        heedsSo("1=2 or 1=2 or 1=1", true);
        heedsSo("not 1=2 or 1=1", true);
        heedsSo("not 1=1 or 1=1", true);
        heedsSo("not 1=2 and 1=2", false);
    }

    private static void sums() {
        String[] same = {"1+2*3=7", "(1+2)*3=9", "10-3-2=5", "10-(3-2)=9", "100/7/2=7", "100/(7/2)=33",
            "7/2=3", "-7/2=-3", "7/-2=-3", "-7/-2=3", "7/0=0", "-7/0=0", "0/5=0", "2--3=5", "--2=2",
            "-2*3=-6", "3*-2=-6", "-(1+2)*3=-9", "2*3/4=1", "3/4*4=0", "1-2*3+4=-1",
            "9999*9999=1000*1000", "9999*100=1000*1000-100", "9999*9999+1=1000*1000", "9999*9999-1=999*1001",
            "-9999*9999=-(1000*1000)", "-9999*9999-1=-(1000*1000)", "9999*9999*9999/1000=1000",
            "1000*1000*-1000*1000=-(1000*1000)", "9999*101-9999*100=100", "1000*1000+1000*1000=1000*1000",
            "-1000*1000-1000*1000=-1000*1000", "0001=1", "9999*9999*9999*9999*9999#0"};
        for (String sum : same) {
            heedsSo(sum, true);
        }
    }

    private static void names() {
        heedsSo("hour=6", true);
        heedsSo("pitch=3", true);
        heedsSo("farm=1", true);
        heedsSo("ear=8", true);
        heedsSo("own=1", true);
        heedsSo("far=7", true);
        heedsSo("yoked=1", true);
        heedsSo("ox=0", true);
        heedsSo("strength=4", true);
        OxenHome home = farmyard();
        Check.rule(home, "heeds hour=7 and pitch=0 and farm=2 and ear=2 and own=0 and far=22 and yoked=0"
            + " and ox=1 and strength=9;");
        CHECK.due("names at 6", home.heeds(1, 2, 0, 0, false), false);
        home.plough();
        CHECK.due("names at 7", home.heeds(1, 2, 0, 0, false), true);
        CHECK.due("names yoked", home.heeds(1, 2, 0, 0, true), false);
        CHECK.due("names of another pitch", home.heeds(1, 2, 1, 0, false), false);
        CHECK.due("names of another farm", home.heeds(1, 0, 0, 0, false), false);
        CHECK.due("names of another ox", home.heeds(0, 2, 0, 0, false), false);
    }

    /** A "second" sees the same names as "heeds"; so a whistle tells which hold. */
    private static void secondNames() {
        String[] so = {"hour=6", "pitch=5", "farm=0", "ear=8", "own=1", "far=4", "yoked=1", "ox=0", "strength=4"};
        for (String ask : so) {
            OxenHome home = farmyard();
            Check.rule(home, "second " + ask + ";");
            home.yoke(0, 1, 0);
            home.whistle(0);
            CHECK.due("second " + ask, home.of(0, 6), 1);
            CHECK.due("the other stays", home.of(1, 6), 10);
        }
    }

    private static void heedsOfOthers() {
        OxenHome home = farmyard();
        Check.rule(home, "heeds 1=1;");
        CHECK.due("pitch 0", home.heeds(0, 0, 0, 0, false), true);
        CHECK.due("pitch 9", home.heeds(1, 2, 9, 0, false), true);
        CHECK.due("ox -1", home.heeds(-1, 0, 0, 0, false), false);
        CHECK.due("ox 2", home.heeds(2, 0, 0, 0, false), false);
        CHECK.due("farm -1", home.heeds(0, -1, 0, 0, false), false);
        CHECK.due("farm 3", home.heeds(0, 3, 0, 0, false), false);
        CHECK.due("pitch -1", home.heeds(0, 0, -1, 0, false), false);
        CHECK.due("pitch 10", home.heeds(0, 0, 10, 0, false), false);
        CHECK.due("field -1", home.heeds(0, 0, 0, -1, false), false);
        CHECK.due("field 1", home.heeds(0, 0, 0, 1, false), false);
    }
}
