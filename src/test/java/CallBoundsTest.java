import java.io.IOException;

/** Part III, from the CALLS to THE IMAGE, sentence by sentence, at the bounds that each names. */
public final class CallBoundsTest {
    private static final Check CHECK = new Check("CallBoundsTest");

    public static void main(String[] args) throws IOException {
        Document document = new Document();
        calls();
        stay();
        stayYoked();
        stayOfThisHour();
        stayToTheLast();
        done();
        doneAtMost();
        plan();
        planTwice();
        planMost();
        planOfLike();
        planThenOn();
        longest();
        dark();
        weigh();
        weighCalls();
        slips();
        odds();
        apart();
        apartHeeded();
        apartStrangers();
        apartDistance();
        apartLeast();
        apartOfLike();
        thunderSeed();
        thunderTimes();
        thunderHome();
        thunderTried();
        image();
        document.covered(CHECK, "CALLS (8 at most)", "The constants:");
        CHECK.close();
    }

    /** Farms of PITCH 0, 3, 6; fields of 99 and 20 FURROWS; ox n of home n mod 3, STRENGTH n + 1. */
    private static OxenHome six() {
        OxenHome home = new OxenHome();
        home.farm(0, 0, 0);
        home.farm(10, 0, 3);
        home.farm(19, 19, 6);
        home.field(2, 0, 4, 99);
        home.field(19, 0, 7, 20);
        for (int ox = 0; ox < 6; ox++) {
            home.ox(ox % 3, -1, ox + 1, ox);
        }
        return home;
    }

    private static void stayIs(OxenHome home, int one, int other, int n, int due) {
        String what = "stay of " + one + " and " + other + " for " + n;
        CHECK.due(what, home.stay(one, other, 0, n, false), due);
        CHECK.due(what + ", turned", home.stay(other, one, 0, n, false), due);
    }

    private static void calls() {
        CHECK.quote("CALLS (8 at most): WHISTLES of a FARM told for an HOUR.");
        OxenHome home = six();
        for (int call = 1; call <= 8; call++) {
            CHECK.due("call", home.call(24 - call, call % 2), call);
            CHECK.due("calls", home.about(6), call);
            stayIs(home, 0, 3, 24, call < 2 ? 24 : (24 - call / 2 * 2 - 6) % 24);
        }
        CHECK.due("the ninth", home.call(7, 0), -1);
        CHECK.due("calls", home.about(6), 8);
        stayIs(home, 0, 3, 24, 10);
        CHECK.due("hush", home.hush(), 8);
        CHECK.due("the first again", home.call(7, 0), 1);
        stayIs(home, 0, 3, 24, 1);
        CHECK.due("hour 0", home.call(0, 1), 2);
        CHECK.due("hour 23", home.call(23, 2), 3);
        CHECK.due("hour 24", home.call(24, 2), -1);
        CHECK.due("hour -1", home.call(-1, 2), -1);
        CHECK.due("farm 3", home.call(1, 3), -1);
        stayIs(home, 1, 4, 24, 18);
        stayIs(home, 2, 5, 24, 17);
        home = six();
        home.call(9, 1);
        Check.rule(home, "heeds pitch=3 and farm=1 and hour=9;");
        stayIs(home, 0, 3, 24, 3);
    }

    private static void stay() {
        CHECK.quote("STAY of two OXEN on a FIELD for n HOURS (1 to 24) from HOUR on: "
            + "how many HOURS go by till one of them");
        OxenHome home = six();
        home.call(8, 0);
        home.call(10, 1);
        home.call(11, 2);
        for (int n = 1; n <= 24; n++) {
            stayIs(home, 0, 1, n, Math.min(n, 2));
            stayIs(home, 1, 2, n, Math.min(n, 4));
            stayIs(home, 5, 2, n, Math.min(n, 5));
        }
        stayIs(home, 0, 1, 0, -1);
        stayIs(home, 0, 1, 25, -1);
        home.plough();
        stayIs(home, 0, 1, 24, 1);
        stayIs(home, 1, 2, 24, 3);
        home.call(9, 2);
        stayIs(home, 1, 2, 24, 2);
    }

    private static void stayYoked() {
        CHECK.quote("(YOKED there)");
        OxenHome home = six();
        home.call(8, 2);
        home.call(9, 0);
        Check.rule(home, "heeds yoked=0 and hour=8 or yoked=1 and hour=9 and far<3;");
        CHECK.due("on field 0", home.stay(0, 1, 0, 24, false), 3);
        CHECK.due("on field 1", home.stay(0, 1, 1, 24, false), 24);
        home.yoke(0, 1, 0);
        CHECK.due("wherever they are", home.stay(0, 1, 1, 24, false), 24);
        CHECK.due("whoever's yoke they are in", home.stay(0, 2, 0, 24, false), 3);
    }

    private static void stayOfThisHour() {
        CHECK.quote("heeds a CALL of the HOUR that comes then");
        OxenHome home = six();
        home.call(6, 0);
        for (int n : new int[] {1, 2, 23, 24}) {
            stayIs(home, 0, 1, n, 0);
            stayIs(home, 1, 2, n, n);
            CHECK.due("done of none", home.stay(0, 1, 0, n, true), 0);
        }
        home.plough();
        stayIs(home, 0, 1, 24, 23);
        stayIs(home, 0, 1, 23, 23);
        stayIs(home, 0, 1, 22, 22);
        home.undo();
        Check.rule(home, "heeds hour=7;");
        stayIs(home, 0, 1, 24, 24);
        home.call(7, 0);
        stayIs(home, 0, 1, 24, 1);
        Check.rule(home, "heeds hour=7 and ox=5;");
        stayIs(home, 0, 1, 24, 24);
        stayIs(home, 0, 5, 24, 1);
    }

    private static void stayToTheLast() {
        CHECK.quote("(n: none does).");
        OxenHome home = six();
        for (int n = 1; n <= 24; n++) {
            stayIs(home, 0, 1, n, n);
        }
        home.call(5, 0);
        stayIs(home, 0, 1, 24, 23);
        stayIs(home, 0, 1, 23, 23);
        stayIs(home, 1, 2, 24, 24);
        stayBehindMidnight();
    }

    private static void stayBehindMidnight() {
        OxenHome home = six();
        home.call(0, 0);
        home.call(23, 1);
        stayIs(home, 0, 3, 24, 18);
        stayIs(home, 0, 3, 18, 18);
        stayIs(home, 0, 3, 17, 17);
        stayIs(home, 1, 4, 24, 17);
        for (int i = 0; i < 17; i++) {
            home.plough();
        }
        stayIs(home, 1, 4, 24, 0);
        stayIs(home, 0, 3, 24, 1);
        home.plough();
        stayIs(home, 1, 4, 24, 23);
        stayIs(home, 0, 3, 24, 0);
    }

    private static void done() {
        CHECK.quote("DONE: what they plough in these,");
        OxenHome home = six();
        for (int n = 1; n <= 14; n++) {
            CHECK.due("done in " + n, home.stay(2, 3, 0, n, true), 7 * n);
        }
        home.call(8, 0);
        CHECK.due("two hours", home.stay(2, 3, 0, 24, true), 14);
        CHECK.due("not called", home.stay(2, 4, 0, 3, true), 24);
        Check.rule(home, "work hour;");
        CHECK.due("6 and 7", home.stay(2, 3, 0, 24, true), 13);
        Check.rule(home, "work (hour-6)*-5;");
        CHECK.due("0 at least each", home.stay(2, 4, 0, 5, true), 0);
        Check.rule(home, "work (23-hour)*50+strength-8;");
        for (int i = 0; i < 16; i++) {
            home.plough();
        }
        CHECK.due("at 22", home.stay(2, 4, 0, 1, true), 50);
        CHECK.due("at 22 and 23", home.stay(2, 4, 0, 2, true), 50);
        CHECK.due("99 at most at 0", home.stay(2, 4, 0, 3, true), 99);
    }

    private static void doneAtMost() {
        CHECK.quote("FURROWS at most.");
        OxenHome home = six();
        CHECK.due("14 hours", home.stay(2, 3, 0, 14, true), 98);
        CHECK.due("15 hours", home.stay(2, 3, 0, 15, true), 99);
        CHECK.due("24 hours", home.stay(2, 3, 0, 24, true), 99);
        CHECK.due("on field 1, 2 hours", home.stay(2, 3, 1, 2, true), 14);
        CHECK.due("on field 1, 3 hours", home.stay(2, 3, 1, 3, true), 20);
        home.yoke(4, 5, 1);
        home.plough();
        CHECK.due("on what is left", home.stay(2, 3, 1, 2, true), 9);
        home.plough();
        CHECK.due("on nothing", home.stay(2, 3, 1, 24, true), 0);
        CHECK.due("stay is as long", home.stay(2, 3, 1, 24, false), 24);
    }

    private static void planIs(OxenHome home, int n, int all, int... pairs) {
        CHECK.due("plan for " + n, home.plan(n, -1), all);
        for (int field = 0; field < pairs.length; field++) {
            CHECK.due("plan for " + n + " on " + field, home.plan(n, field), pairs[field]);
        }
    }

    private static void plan() {
        CHECK.quote("PLAN for n HOURS: on each FIELD two OXEN or none,");
        OxenHome home = six();
        planIs(home, 1, 18, 23, 45);
        planIs(home, 24, 119, 3, 12);
        home.call(6, 0);
        planIs(home, 1, 16, 12, 45);
        home.call(6, 1);
        planIs(home, 1, 9, -1, 25);
        home.call(6, 2);
        planIs(home, 24, 0, -1, -1);
        CHECK.due("for 0", home.plan(0, -1), -2);
        CHECK.due("for 25", home.plan(25, 0), -2);
    }

    private static void planTwice() {
        CHECK.quote("none twice (wherever they are now),");
        OxenHome home = alike(3, 50, 50);
        planIs(home, 1, 10, -1, 12);
        home.yoke(1, 2, 0);
        planIs(home, 1, 10, -1, 12);
        home.yoke(0, 0, 1);
        home.loose(1);
        planIs(home, 1, 10, -1, 12);
        home = six();
        home.yoke(4, 5, 0);
        home.yoke(2, 3, 0);
        planIs(home, 1, 18, 23, 45);
        home = alike(2, 50, 50, 50, 50);
        planIs(home, 1, 10, -1, -1, -1, 1);
        home = alike(7, 50, 50, 50, 50);
        planIs(home, 1, 30, -1, 12, 34, 56);
    }

    /** Oxen of STRENGTH 5, or the first 4 where they are odd: fields with these FURROWS. */
    private static OxenHome alike(int oxen, int... furrows) {
        OxenHome home = new OxenHome();
        home.farm(0, 0, 0);
        for (int left : furrows) {
            home.field(0, 0, 0, left);
        }
        for (int ox = 0; ox < oxen; ox++) {
            home.ox(0, -1, oxen % 2 == 1 && ox == 0 ? 4 : 5, 0);
        }
        return home;
    }

    private static OxenHome strong(int... strengths) {
        OxenHome home = new OxenHome();
        home.farm(0, 0, 0);
        for (int strength : strengths) {
            home.ox(0, -1, strength, 0);
        }
        return home;
    }

    private static void planMost() {
        CHECK.quote("so that DONE of all together is most;");
        OxenHome home = strong(1, 2, 5, 6);
        home.field(0, 0, 0, 3);
        home.field(0, 0, 0, 99);
        planIs(home, 1, 14, 1, 23);
        planIs(home, 2, 25, 1, 23);
        Check.rule(home, "work weaker;");
        planIs(home, 1, 6, 1, 23);
        home = strong(9, 1, 9, 1);
        home.field(0, 0, 0, 10);
        home.field(0, 0, 0, 10);
        planIs(home, 1, 20, 1, 23);
        home = strong(9, 9, 1, 1);
        home.field(0, 0, 0, 10);
        home.field(0, 0, 0, 10);
        planIs(home, 1, 20, 2, 13);
        home.field(0, 0, 0, 19);
        planIs(home, 1, 20, -1, 2, 13);
        home = strong(1, 1, 8, 8, 9, 9);
        home.field(0, 0, 0, 2);
        home.field(0, 0, 0, 18);
        home.field(0, 0, 0, 17);
        // 18 and 16 are as much as 17 and 17.
        planIs(home, 1, 36, 1, 24, 35);
        planIs(home, 24, 37, 1, 23, 45);
    }

    private static void planOfLike() {
        CHECK.quote("of like ones the lowest on FIELD 0 (none below all, "
            + "then by 10 times the lower OX and the other one),");
        planIs(alike(8, 0), 24, 0, -1);
        planIs(alike(8, 1), 24, 1, 1);
        planIs(alike(8, 9), 1, 9, 1);
        planIs(alike(2, 9, 9), 1, 9, -1, 1);
        planIs(alike(4, 0, 9), 1, 9, -1, 1);
        OxenHome home = strong(9, 5, 5, 3, 3, 3, 3, 1);
        home.field(0, 0, 0, 99);
        Check.rule(home, "work (strength-10)*(strength-10)*-1+1;");
        planIs(home, 1, 1, 7);
        home = strong(9, 5, 5, 3, 3, 3, 3, 2);
        home.field(0, 0, 0, 99);
        Check.rule(home, "work (strength-10)*(strength-10)*-1+1;");
        planIs(home, 1, 1, 12);
    }

    private static void planThenOn() {
        CHECK.quote("then on 1, .. .");
        planIs(alike(4, 9, 9, 9), 1, 18, -1, 1, 23);
        planIs(alike(4, 9, 9, 9, 9), 1, 18, -1, -1, 1, 23);
        planIs(alike(6, 9, 9, 9, 9), 1, 27, -1, 1, 23, 45);
        planIs(alike(8, 9, 9, 9, 9), 1, 36, 1, 23, 45, 67);
        planIs(alike(8, 9, 0, 9, 9), 1, 27, 1, -1, 23, 45);
        planIs(alike(8, 9, 9, 9, 0), 1, 27, 1, 23, 45, -1);
        OxenHome home = strong(9, 9, 2, 3, 1, 4);
        home.field(0, 0, 0, 18);
        home.field(0, 0, 0, 5);
        planIs(home, 1, 23, 1, 23);
        home = strong(9, 9, 1, 3, 2, 4);
        home.field(0, 0, 0, 18);
        home.field(0, 0, 0, 5);
        planIs(home, 1, 23, 1, 25);
    }

    private static void longest() {
        CHECK.quote("LONGEST on a FIELD: the two whose STAY is greatest, of like ones the lowest.");
        OxenHome home = six();
        CHECK.due("none is called", home.longest(0, 24), 1);
        home.call(9, 0);
        CHECK.due("0 and 3 are called at 9", home.longest(0, 24), 12);
        CHECK.due("for 4", home.longest(0, 4), 12);
        CHECK.due("for 3", home.longest(0, 3), 1);
        home.call(8, 1);
        CHECK.due("1 and 4 at 8", home.longest(0, 24), 25);
        home.call(7, 2);
        CHECK.due("2 and 5 at 7", home.longest(0, 24), 3);
        CHECK.due("for 1", home.longest(0, 1), 1);
        CHECK.due("for 2", home.longest(0, 2), 1);
        home.call(6, 0);
        CHECK.due("0 and 3 now", home.longest(0, 24), 14);
        home.call(6, 1);
        CHECK.due("1 and 4 now", home.longest(0, 24), 25);
        home.call(6, 2);
        CHECK.due("all now", home.longest(0, 24), 1);
        Check.rule(home, "heeds ox#4 and far=2 or ox#5 and far=19;");
        CHECK.due("one alone stays on field 0", home.longest(0, 24), 1);
        Check.rule(home, "heeds ox#4 and ox#2;");
        CHECK.due("two stay", home.longest(1, 24), 24);
        CHECK.due("for 0", home.longest(1, 0), -1);
        CHECK.due("for 25", home.longest(1, 25), -1);
    }

    private static void oddsAre(OxenHome home, int set, int went, int farm, long upper, long lower) {
        String what = "odds of " + farm + " of " + set + " went " + went;
        CHECK.due(what, home.dark(0, 8, set, went, farm, 0), upper);
        CHECK.due(what + ", lower", home.dark(0, 8, set, went, farm, 1), lower);
    }

    private static void dark() {
        CHECK.quote("DARK on a FIELD at an HOUR: of the OXEN of a set (not YOKED there) "
            + "just those of another set (of them) went.");
        OxenHome home = six();
        oddsAre(home, 0, 0, 0, 1, 3);
        oddsAre(home, 63, 9, 0, 1, 1);
        oddsAre(home, 63, 9, 1, 0, 1);
        oddsAre(home, 63, 63, 0, -1, -1);
        oddsAre(home, 63, 0, 0, -1, -1);
        oddsAre(home, 6, 0, 0, 1, 1);
        oddsAre(home, 2, 0, 0, 1, 2);
        oddsAre(home, 1, 2, 0, -1, -1);
        oddsAre(home, 64, 0, 0, -1, -1);
        oddsAre(home, 127, 0, 0, -1, -1);
        oddsAre(home, -1, 0, 0, -1, -1);
        oddsAre(home, 63, 64, 0, -1, -1);
        oddsAre(home, 63, -1, 0, -1, -1);
        Check.rule(home, "heeds yoked=0 and own=1 and hour=8 and far<18;");
        home.yoke(0, 1, 0);
        oddsAre(home, 1, 1, 0, 1, 1);
        oddsAre(home, 4, 4, 2, -1, -1);
        oddsAre(home, 2, 2, 1, 1, 1);
        CHECK.due("at another hour", home.dark(0, 9, 1, 1, 0, 0), -1);
        CHECK.due("on another field", home.dark(1, 8, 1, 1, 0, 0), -1);
        CHECK.due("at hour 0", home.dark(1, 0, 1, 0, 0, 1), 3);
        CHECK.due("at hour 23", home.dark(1, 23, 1, 0, 2, 0), 1);
    }

    private static void weigh() {
        CHECK.quote("A FARM and a PITCH (0 .. 9; any FARM may have any) WEIGH");
        OxenHome home = six();
        Check.rule(home, "heeds own=1 and pitch<3;");
        oddsAre(home, 1, 1, 0, 1, 1);
        oddsAre(home, 1, 0, 0, 7, 27);
        oddsAre(home, 1, 0, 1, 10, 27);
        Check.rule(home, "heeds pitch=0 and farm=0 or pitch=9 and farm>0;");
        oddsAre(home, 1, 1, 0, 1, 3);
        oddsAre(home, 1, 1, 2, 1, 3);
        Check.rule(home, "heeds pitch>=farm*5;");
        oddsAre(home, 1, 1, 0, 2, 3);
        oddsAre(home, 1, 1, 1, 1, 3);
        oddsAre(home, 1, 1, 2, 0, 1);
    }

    private static void weighCalls() {
        CHECK.quote("calls (0 at least, 9 at most; without: 1),");
        OxenHome home = six();
        Check.rule(home, "calls farm-1;");
        oddsAre(home, 0, 0, 0, 0, 1);
        oddsAre(home, 0, 0, 1, 0, 1);
        oddsAre(home, 0, 0, 2, 1, 1);
        Check.rule(home, "calls 8+farm;");
        oddsAre(home, 0, 0, 0, 4, 13);
        oddsAre(home, 0, 0, 1, 9, 26);
        oddsAre(home, 0, 0, 2, 9, 26);
        Check.rule(home, "calls farm-2;");
        oddsAre(home, 0, 0, 0, -1, -1);
        oddsAre(home, 0, 0, 2, -1, -1);
        Check.rule(home, "calls (farm-1)*9999*9999;");
        oddsAre(home, 0, 0, 1, 0, 1);
        oddsAre(home, 0, 0, 2, 1, 1);
        home.by(-1);
        oddsAre(home, 0, 0, 2, 1, 3);
        home = six();
        Check.rule(home, "heeds own=1;slip 4*(1-farm);");
        oddsAre(home, 1, 0, 0, 1, 6);
        oddsAre(home, 1, 0, 1, 5, 12);
    }

    private static void slips() {
        CHECK.quote("times for each OX of the set 10 - s, if it did as heeds says, "
            + "or s (slip, 0 at least, 9 at most; without: 0).");
        int[] slips = {0, 1, 5, 8, 9, 10, 9999};
        int[] due = {0, 1, 5, 8, 9, 9, 9};
        for (int i = 0; i < slips.length; i++) {
            OxenHome home = six();
            Check.rule(home, "slip " + slips[i] + ";");
            CHECK.due("slip " + slips[i], home.dark(0, 8, 1, 1, 0, 0) * (10 + due[i]),
                home.dark(0, 8, 1, 1, 0, 1) * (10 - due[i]));
            CHECK.due("slip of both " + slips[i], home.dark(0, 8, 9, 9, 0, 0)
                * ((10 - due[i]) * (10 - due[i]) + 2 * due[i] * due[i]),
                home.dark(0, 8, 9, 9, 0, 1) * (10 - due[i]) * (10 - due[i]));
        }
        OxenHome home = six();
        Check.rule(home, "slip -1;");
        oddsAre(home, 1, 1, 0, 1, 1);
        Check.rule(home, "slip -9999*9999;");
        oddsAre(home, 3, 3, 0, -1, -1);
        Check.rule(home, "calls 3;");
        oddsAre(home, 1, 1, 0, 1, 1);
        oddsAre(home, 1, 1, 1, 0, 1);
        Check.rule(home, "slip ox;");
        // 3 slips by 3, 4 by 4: farm 0 weighs 7 * 4, farm 1 3 * 6, farm 2 3 * 4.
        oddsAre(home, 24, 24, 0, 14, 29);
        oddsAre(home, 24, 24, 1, 9, 29);
        oddsAre(home, 24, 24, 2, 6, 29);
    }

    private static void odds() {
        CHECK.quote("ODDS of a FARM: its WEIGHTS by all, in lowest terms.");
        OxenHome home = six();
        Check.rule(home, "calls farm*2+2;");
        oddsAre(home, 0, 0, 0, 1, 6);
        oddsAre(home, 0, 0, 1, 1, 3);
        oddsAre(home, 0, 0, 2, 1, 2);
        Check.rule(home, "calls farm*farm*2;");
        oddsAre(home, 0, 0, 0, 0, 1);
        oddsAre(home, 0, 0, 1, 1, 5);
        oddsAre(home, 0, 0, 2, 4, 5);
        Check.rule(home, "calls farm/2;");
        oddsAre(home, 0, 0, 0, 0, 1);
        oddsAre(home, 0, 0, 2, 1, 1);
        home = new OxenHome();
        home.field(0, 0, 0, 0);
        CHECK.due("without farms", home.dark(0, 0, 0, 0, 0, 1), -1);
        home.farm(0, 0, 0);
        CHECK.due("with one", home.dark(0, 0, 0, 0, 0, 1), 1);
        oddsGreat();
    }

    private static void oddsGreat() {
        OxenHome home = new OxenHome();
        for (int farm = 0; farm < 5; farm++) {
            home.farm(0, 0, farm);
        }
        home.field(0, 0, 0, 0);
        for (int ox = 0; ox < 8; ox++) {
            home.ox(0, -1, 1, 1);
        }
        Check.rule(home, "heeds 1=1;calls 9;");
        oddsAre(home, 255, 255, 4, 1, 5);
        Check.rule(home, "heeds pitch=0 and farm=4;slip 1;");
        oddsAre(home, 255, 255, 4, 4304673, 4304677);
        oddsAre(home, 255, 255, 0, 1, 4304677);
        Check.rule(home, "heeds farm=4 or farm=3 and ox<7;slip 1;calls 9;");
        oddsAre(home, 255, 255, 4, 14348907, 15943231);
        oddsAre(home, 255, 255, 3, 1594323, 15943231);
        oddsAre(home, 255, 255, 2, 1, 47829693);
        Check.rule(home, "heeds 1=1;slip 1-(farm+3)/4;calls 9-pitch/9*farm;");
        oddsAre(home, 255, 255, 0, 387420489, 3887420489L);
        oddsAre(home, 255, 255, 1, 890000000, 3887420489L);
        oddsAre(home, 255, 255, 4, 860000000, 3887420489L);
    }

    private static void apartIs(OxenHome home, int d, int change, int... pitches) {
        CHECK.due("apart by " + d, home.apart(d, 0, -1), change);
        for (int farm = 0; farm < pitches.length; farm++) {
            CHECK.due("apart by " + d + ", farm " + farm, home.apart(d, 0, farm), pitches[farm]);
        }
    }

    private static OxenHome pitched(int... pitches) {
        OxenHome home = new OxenHome();
        home.field(0, 0, 0, 0);
        for (int pitch : pitches) {
            home.farm(0, 0, pitch);
        }
        return home;
    }

    private static void apart() {
        CHECK.quote("APART by d (0 to 9) on a FIELD at HOUR: a PITCH for each FARM,");
        apartIs(pitched(), 9, 0);
        apartIs(pitched(0), 9, 0, 0);
        apartIs(pitched(9), 9, 0, 9);
        apartIs(pitched(4, 4, 4, 4, 4), 0, 0, 4, 4, 4, 4, 4);
        apartIs(pitched(4, 4, 4, 4, 4), 1, 6, 2, 3, 4, 5, 6);
        apartIs(pitched(9, 0), 9, 0, 9, 0);
        apartIs(pitched(9, 0), 10, -1, -1, -1);
        apartIs(pitched(9, 0), -1, -1, -1, -1);
        OxenHome home = six();
        Check.rule(home, "heeds own=1 and hour=6;");
        apartIs(home, 0, 0, 0, 3, 6);
        home.plough();
        apartIs(home, 0, -1, -1, -1, -1);
        home.undo();
        Check.rule(home, "heeds own=1 and far*pitch<=18;");
        // Far 2, 8 and 36: up to 9, to 2 and to 0; of field 1 far 19, 9 and 19.
        apartIs(home, 0, 7, 0, 2, 0);
        apartIs(home, 1, 8, 1, 2, 0);
        CHECK.due("of another field", home.apart(0, 1, -1), 7);
        CHECK.due("of another field by 1", home.apart(1, 1, -1), -1);
    }

    private static void apartHeeded() {
        CHECK.quote("so that from there (not YOKED) each OX whose HOME it is heeds it,");
        OxenHome home = pitched(5, 2);
        home.ox(0, -1, 1, 3);
        home.ox(0, 1, 1, 7);
        Check.rule(home, "heeds own=1 and pitch<ear and yoked=0;");
        apartIs(home, 0, 3, 2, 2);
        home.ox(1, -1, 1, 1);
        apartIs(home, 0, 5, 2, 0);
        home.ox(0, 1, 1, 0);
        apartIs(home, 0, -1, -1, -1);
        Check.rule(home, "heeds own=1 and yoked=1;");
        home.yoke(0, 1, 0);
        apartIs(home, 0, -1, -1, -1);
        home.by(-1);
        apartIs(home, 0, 0, 5, 2);
    }

    private static void apartStrangers() {
        CHECK.quote("none heeds it of which it is neither HOME nor SECOND,");
        OxenHome home = pitched(5, 5, 5);
        home.ox(0, 1, 1, 3);
        Check.rule(home, "heeds pitch>ear;");
        // Ox 0 may heed farm 1 or not, but not farm 2.
        apartIs(home, 0, 2, 5, 5, 3);
        apartIs(home, 2, 4, 5, 7, 3);
        home.ox(1, -1, 1, 6);
        // Farm 0: not heeded by ox 1, farm 1: heeded by it.
        apartIs(home, 0, 4, 5, 7, 3);
        home.ox(2, -1, 1, 2);
        apartIs(home, 0, -1, -1, -1, -1);
        home = pitched(5, 5);
        home.ox(0, -1, 1, 3);
        home.sell(0, 1);
        Check.rule(home, "heeds pitch>ear;");
        apartIs(home, 0, 2, 5, 3);
    }

    private static void apartDistance() {
        CHECK.quote("and PITCHES of two FARMS are d or more apart;");
        for (int d = 0; d <= 9; d++) {
            apartIs(pitched(0, 0), d, d, 0, d);
            apartIs(pitched(9, 9), d, d, 9 - d, 9);
            apartIs(pitched(0, d), d, 0, 0, d);
            apartIs(pitched(d, 0), d, 0, d, 0);
        }
        apartIs(pitched(0, 4, 9), 4, 0, 0, 4, 9);
        apartIs(pitched(0, 4, 8), 4, 0, 0, 4, 8);
        apartIs(pitched(0, 4, 7), 4, 1, 0, 4, 8);
        apartIs(pitched(0, 9, 1), 4, 3, 0, 9, 4);
        apartIs(pitched(0, 0, 0), 5, -1, -1, -1, -1);
        apartIs(pitched(0, 2, 4, 6, 8), 2, 0, 0, 2, 4, 6, 8);
        apartIs(pitched(0, 2, 4, 6, 8), 3, -1, -1, -1, -1, -1, -1);
        apartIs(pitched(9, 7, 5, 3, 0), 2, 0, 9, 7, 5, 3, 0);
    }

    private static void apartLeast() {
        CHECK.quote("by how much all PITCHES change together is least;");
        apartIs(pitched(5, 5, 5), 1, 2, 4, 5, 6);
        apartIs(pitched(0, 0, 0), 1, 3, 0, 1, 2);
        apartIs(pitched(9, 9, 9), 1, 3, 7, 8, 9);
        apartIs(pitched(5, 6), 3, 2, 3, 6);
        apartIs(pitched(6, 5), 3, 2, 6, 3);
        apartIs(pitched(5, 5, 9), 2, 2, 3, 5, 9);
        apartIs(pitched(5, 5, 1), 2, 2, 3, 5, 1);
    }

    private static void apartOfLike() {
        CHECK.quote("of like ones the lowest of FARM 0, then 1, .. .");
        apartIs(pitched(5, 5), 1, 1, 4, 5);
        apartIs(pitched(5, 5), 2, 2, 3, 5);
        apartIs(pitched(5, 5), 9, 9, 0, 9);
        apartIs(pitched(0, 0), 1, 1, 0, 1);
        apartIs(pitched(5, 5, 5), 2, 4, 3, 5, 7);
        apartIs(pitched(9, 4, 4), 1, 1, 9, 3, 4);
        apartIs(pitched(9, 4, 4, 4), 1, 2, 9, 3, 4, 5);
        apartIs(pitched(9, 8, 3, 3), 1, 1, 9, 8, 2, 3);
    }

    /** Whether ox 0, loose on a field, is gone behind n by a law. */
    private static void thunderIs(String law, int seed, int n, int due) {
        OxenHome home = pitched(5, 5);
        home.ox(0, 1, 1, 3);
        home.ox(0, -1, 1, 4);
        home.yoke(0, 1, 0);
        home.loose(0);
        Check.rule(home, law);
        CHECK.due(law + " by " + seed + ", " + n, home.thunder(seed, n), due);
    }

    private static void thunderSeed() {
        CHECK.quote("THUNDER by a SEED: X is SEED (0 .. 9999) * 13 + 2;");
        for (int seed : new int[] {0, 1, 2, 5, 9, 10, 77, 9998, 9999}) {
            int pitch = (seed * 13 + 2) % 10;
            thunderIs("heeds ox=0 and pitch=" + pitch + ";", seed, 1, 1);
            thunderIs("heeds ox=0 and pitch#" + pitch + ";", seed, 1, 0);
        }
        thunderIs("heeds 1=1;", -1, 1, -1);
        thunderIs("heeds 1=1;", 10000, 1, -1);
    }

    private static void thunderTimes() {
        CHECK.quote("n times (1 .. 99), at HOUR: a WHISTLE of no FARM (not OWN) with PITCH X mod 10, "
            + "X becoming (X * 163 + 47) mod 30059 behind it:");
        for (int seed : new int[] {0, 3, 9999}) {
            for (int pitch = 0; pitch < 10; pitch++) {
                int x = seed * 13 + 2;
                int n = 1;
                while (x % 10 != pitch) {
                    x = (x * 163 + 47) % 30059;
                    n++;
                }
                thunderIs("heeds ox=0 and pitch=" + pitch + ";", seed, n, 1);
                thunderIs("heeds ox=0 and pitch=" + pitch + ";", seed, n - 1, n == 1 ? -1 : 0);
                thunderIs("heeds ox=0 and pitch=" + pitch + ";", seed, 99, 1);
            }
        }
        thunderIs("heeds 1=1;", 0, 0, -1);
        thunderIs("heeds 1=1;", 0, 100, -1);
        thunderIs("", 0, 99, 0);
        thunderIs("heeds own=1;", 0, 99, 0);
        thunderIs("heeds own=0 and farm=-1 and far=0 and hour=6;", 0, 1, 2);
        thunderIs("heeds hour#6;", 0, 99, 0);
        thunderIs("heeds yoked=1;", 0, 99, 0);
    }

    private static void thunderHome() {
        CHECK.quote("how many OXEN it drives home in all.");
        thunderIs("heeds 1=1;", 0, 99, 2);
        thunderIs("heeds 1=1;second 1=1;", 0, 99, 2);
        thunderIs("heeds ox=1;", 0, 99, 1);
        thunderIs("heeds 1=2;", 0, 99, 0);
        // The pitches by SEED 0 begin 2, 3, 8, 4, 3.
        thunderIs("heeds pitch=2 and ox=1 or pitch=8 and ox=0;", 0, 2, 1);
        thunderIs("heeds pitch=2 and ox=1 or pitch=8 and ox=0;", 0, 3, 2);
        OxenHome home = six();
        Check.rule(home, "heeds pitch=2 and ox=0 or pitch=3 and yoked=0;");
        CHECK.due("none is at a field", home.thunder(0, 99), 0);
        home.yoke(0, 1, 0);
        home.yoke(2, 3, 1);
        CHECK.due("the first", home.thunder(0, 1), 1);
        CHECK.due("its mate is loose then", home.thunder(0, 2), 2);
        CHECK.due("the others are not", home.thunder(0, 99), 2);
        Check.rule(home, "heeds 1=1;");
        CHECK.due("all four", home.thunder(0, 1), 4);
    }

    private static void thunderTried() {
        CHECK.quote("(TRIED: nothing is changed.)");
        OxenHome home = six();
        home.yoke(0, 1, 0);
        home.yoke(2, 3, 1);
        Check.rule(home, "heeds 1=1;");
        for (int i = 0; i < 3; i++) {
            CHECK.due("all four", home.thunder(0, 99), 4);
            CHECK.due("steps", home.about(7), 2);
            CHECK.due("hour", home.about(3), 6);
            for (int ox = 0; ox < 4; ox++) {
                CHECK.due("at", home.of(ox, 6), 10 + ox / 2);
                CHECK.due("with", home.of(ox, 7), ox ^ 1);
            }
        }
        CHECK.due("plough", home.plough(), 10);
        CHECK.due("undo", home.undo(), 2);
    }

    private static void image() {
        CHECK.quote("AN IMAGE: all as it is, STEPS as well, but the tape and the latest FAULT. BACK: all is so again.");
        OxenHome home = new OxenHome();
        Check.fill(home, "work !;");
        home.feed(0, 0, 0, 0, 0);
        home.back();
        CHECK.due("the tape is not gone back of", home.about(8), 27);
        CHECK.due("nor is the fault", home.fault(0), -1);
        home.end(7);
        home.text();
        home.back();
        CHECK.due("the fault stays", home.fault(0), 1);
        CHECK.due("its place stays", home.fault(1), 5);
        imageFull();
        imageOfTexts();
        imageOfSteps();
        imageOfCalls();
        imageOfFewer();
    }

    private static void imageFull() {
        OxenHome home = Yards.crowded();
        home.hush();
        home.image();
        for (int i = 0; i < 25; i++) {
            home.night();
        }
        home.by(2);
        home.call(1, 1);
        home.whistle(1);
        home.plough();
        home.plough();
        CHECK.due("back", home.back(), 7);
        int[] due = {5, 4, 8, 7, 4, 3, 0, 3, 300};
        for (int what = 0; what < due.length; what++) {
            CHECK.due("about " + what, home.about(what), due[what]);
        }
        CHECK.due("furrows", home.about(23), 4);
        CHECK.due("with whom", home.of(5, 7), 6);
        CHECK.due("undo the hour", home.undo(), 2);
        CHECK.due("furrows", home.about(23), 14);
        home.undo();
        CHECK.due("undo the first yoke", home.undo(), 0);
        CHECK.due("where it was", home.of(5, 6), 4);
        CHECK.due("back to full", home.back(), 7);
        CHECK.due("a farm more", home.farm(0, 0, 0), -1);
        CHECK.due("a text more", home.text(), -1);
    }

    private static void imageOfTexts() {
        OxenHome home = six();
        home.yoke(4, 5, 0);
        Check.rule(home, "work 3;");
        home.image();
        Check.rule(home, "work 4;");
        Check.tell(home, "work 5;");
        Check.tell(home, "work 6;");
        home.back();
        CHECK.due("texts", home.about(4), 1);
        CHECK.due("the text", home.about(5), 0);
        CHECK.due("a later one is none", home.by(1), false);
        CHECK.due("its work", home.plough(), 3);
        CHECK.due("a faulty one in its place", Check.tell(home, "work 7;!"), -1);
        CHECK.due("one in its place", Check.tell(home, "slip 7;"), 1);
        home.by(1);
        CHECK.due("nothing of the one that was there", home.plough(), 11);
        home.by(0);
        CHECK.due("the first is as it was", home.plough(), 3);
        home.back();
        home.by(-1);
        home.back();
        CHECK.due("it rules again", home.plough(), 3);
    }

    private static void imageOfCalls() {
        OxenHome home = six();
        home.call(9, 0);
        home.call(12, 1);
        home.image();
        home.hush();
        home.call(7, 2);
        home.call(8, 0);
        home.call(8, 1);
        stayIs(home, 1, 2, 24, 1);
        home.back();
        CHECK.due("calls", home.about(6), 2);
        stayIs(home, 0, 1, 24, 3);
        stayIs(home, 1, 2, 24, 6);
        stayIs(home, 2, 5, 24, 24);
        imageOfPlaces();
        home.hush();
        home.image();
        home.call(8, 0);
        home.back();
        CHECK.due("no calls", home.about(6), 0);
        stayIs(home, 0, 1, 24, 24);
    }

    private static void imageOfPlaces() {
        OxenHome home = new OxenHome();
        int[][] places = {{1, 2, 3, 5}, {7, 11, 6, 17}, {19, 0, 4, 8}};
        for (int[] place : places) {
            home.farm(place[0], place[1], place[2]);
            home.field(place[2], place[3], place[0] % 10, 50 + place[0]);
            home.ox(0, -1, 1, 1);
            home.image();
        }
        home.back();
        Check.rule(home, "heeds far=pitch*10+ox or far=pitch*10+3+ox;work soil*7;");
        home.image();
        for (int[] place : places) {
            home.farm(place[3], place[2], place[1] % 10);
            home.field(place[1], place[0], place[3] % 10, 7);
        }
        home.back();
        for (int farm = 0; farm < 3; farm++) {
            CHECK.due("pitch", home.about(10 + farm), places[farm][2]);
            CHECK.due("furrows", home.about(20 + farm), 50 + places[farm][0]);
            CHECK.due("soil", home.stay(0, 1, farm, 1, true), places[farm][0] % 10 * 7);
            for (int field = 0; field < 3; field++) {
                int far = Math.abs(places[farm][0] - places[field][2]) + Math.abs(places[farm][1] - places[field][3]);
                for (int ox = 0; ox < 3; ox++) {
                    boolean due = far % 10 == ox || far % 10 == ox + 3;
                    CHECK.due("far " + far, home.heeds(ox, farm, far / 10, field, false), due);
                }
            }
        }
    }

    /** What was told and asked since leaves nothing behind. */
    private static void imageOfFewer() {
        OxenHome home = strong(1, 2);
        home.field(0, 0, 0, 5);
        home.image();
        for (int field = 1; field < 4; field++) {
            home.field(field, 0, field, 50);
        }
        for (int farm = 1; farm < 5; farm++) {
            home.farm(farm, 0, 0);
        }
        for (int ox = 2; ox < 8; ox++) {
            home.ox(4, -1, 9, 0);
        }
        planIs(home, 1, 57, 1, 23, 45, 67);
        CHECK.due("apart", home.apart(1, 0, -1), 10);
        CHECK.due("longest", home.longest(3, 24), 1);
        home.back();
        planIs(home, 1, 3, 1, -2, -2, -2);
        CHECK.due("apart", home.apart(1, 0, -1), 0);
        CHECK.due("longest", home.longest(0, 24), 1);
        CHECK.due("longest on none", home.longest(1, 24), -1);
        CHECK.due("dark", home.dark(0, 0, 3, 3, 0, 1), 1);
        CHECK.due("dark of none", home.dark(0, 0, 4, 4, 0, 1), -1);
        CHECK.due("another farm", home.farm(3, 0, 5), 1);
        CHECK.due("its pitch", home.about(11), 5);
        CHECK.due("another field", home.field(9, 0, 9, 9), 1);
        CHECK.due("another ox", home.ox(1, 0, 8, 7), 2);
        int[] due = {1, 0, 8, 7, 1, 0, 1, -1};
        for (int what = 0; what < 8; what++) {
            CHECK.due("of the other ox " + what, home.of(2, what), due[what]);
        }
        planIs(home, 1, 9, -1, 2);
        home.back();
        CHECK.due("no farm more", home.about(0), 1);
        CHECK.due("no ox more", home.of(2, 0), -2);
    }

    private static void imageOfSteps() {
        OxenHome home = six();
        for (int i = 0; i < 23; i++) {
            home.plough();
        }
        CHECK.due("at 5", home.image(), 5);
        for (int i = 0; i < 12; i++) {
            home.undo();
        }
        home.night();
        CHECK.due("back", home.back(), 5);
        CHECK.due("steps", home.about(7), 20);
        for (int left = 19; left >= 0; left--) {
            CHECK.due("undo", home.undo(), left);
            CHECK.due("hour", home.about(3), (9 + left) % 24);
        }
        CHECK.due("no more", home.undo(), -1);
        CHECK.due("back again", home.back(), 5);
        CHECK.due("steps again", home.about(7), 20);
    }
}
