/** Promises 22 to 27: what is found by looking ahead or by trying all. */
public final class SearchTest {
    private static final Check CHECK = new Check("SearchTest");

    public static void main(String[] args) {
        stay();
        stayOfACallOfTheHour();
        stayByLaw();
        done();
        plan();
        planOfACallOfTheHour();
        planOfLike();
        longest();
        longestOfACallOfTheHour();
        dark();
        darkByLaw();
        darkGreat();
        apart();
        apartByLaw();
        thunder();
        nothingIsChanged();
        CHECK.close();
    }

    /** Three farms, two fields, five oxen. */
    private static OxenHome farmyard() {
        OxenHome home = new OxenHome();
        home.farm(0, 0, 2);
        home.farm(5, 5, 4);
        home.farm(9, 0, 6);
        home.field(1, 1, 3, 30);
        home.field(6, 6, 7, 50);
        home.ox(0, -1, 3, 1);
        home.ox(1, -1, 4, 2);
        home.ox(2, 0, 5, 3);
        home.ox(0, 2, 6, 4);
        home.ox(1, -1, 7, 5);
        return home;
    }

    private static void stay() {
        OxenHome home = farmyard();
        CHECK.due("without calls", home.stay(0, 1, 0, 24, false), 24);
        home.call(5, 1);
        home.call(9, 2);
        home.call(8, 2);
        CHECK.due("till 5", home.stay(0, 1, 0, 24, false), 23);
        CHECK.due("till 5, of 23", home.stay(0, 1, 0, 23, false), 23);
        CHECK.due("of 22", home.stay(0, 1, 0, 22, false), 22);
        CHECK.due("till 8", home.stay(0, 2, 1, 24, false), 2);
        CHECK.due("other way round", home.stay(3, 0, 1, 24, false), 2);
        CHECK.due("of 2", home.stay(3, 0, 1, 2, false), 2);
        CHECK.due("of 1", home.stay(3, 0, 1, 1, false), 1);
        home.call(7, 0);
        CHECK.due("till 7", home.stay(4, 0, 1, 24, false), 1);
        home.hush();
        home.call(0, 0);
        CHECK.due("behind midnight", home.stay(4, 0, 1, 24, false), 18);
        home.yoke(0, 1, 1);
        CHECK.due("wherever they are", home.stay(1, 0, 0, 24, false), 18);
        stayOfOthers(home);
    }

    /** HOUR itself is the first of the n HOURS. */
    private static void stayOfACallOfTheHour() {
        OxenHome home = farmyard();
        home.call(6, 0);
        CHECK.due("a call of this hour", home.stay(0, 1, 0, 24, false), 0);
        CHECK.due("of 1", home.stay(0, 1, 0, 1, false), 0);
        CHECK.due("the other heeds it", home.stay(1, 0, 0, 1, false), 0);
        CHECK.due("nothing is done", home.stay(0, 1, 0, 24, true), 0);
        CHECK.due("of 1, nothing is done", home.stay(0, 1, 0, 1, true), 0);
        CHECK.due("those that it does not call", home.stay(1, 4, 0, 24, false), 24);
        CHECK.due("what they do", home.stay(1, 4, 0, 1, true), 11);
        home.call(9, 1);
        CHECK.due("a later call", home.stay(1, 4, 0, 24, false), 3);
        CHECK.due("a call of this hour first", home.stay(0, 1, 0, 24, false), 0);
        home.plough();
        CHECK.due("an hour on", home.stay(1, 4, 0, 24, false), 2);
        CHECK.due("the call is a day off, all but an hour", home.stay(0, 3, 0, 24, false), 23);
        CHECK.due("it is not of the 23 hours", home.stay(0, 3, 0, 23, false), 23);
        home.undo();
        CHECK.due("the hour is back", home.stay(0, 3, 0, 24, false), 0);
        Check.rule(home, "heeds hour=7;");
        CHECK.due("by law none heeds it", home.stay(0, 3, 0, 24, false), 24);
        Check.rule(home, "heeds hour=6 and yoked=1 and ox=3;");
        CHECK.due("by law one heeds it", home.stay(0, 3, 0, 24, false), 0);
        CHECK.due("by law the other two do not", home.stay(0, 1, 0, 24, false), 24);
    }

    private static void stayOfOthers(OxenHome home) {
        int[][] wrong = {{0, 0, 0, 5}, {-1, 0, 0, 5}, {0, -1, 0, 5}, {5, 0, 0, 5}, {0, 5, 0, 5},
            {0, 1, -1, 5}, {0, 1, 2, 5}, {0, 1, 0, 0}, {0, 1, 0, 25}, {0, 1, 0, -1}};
        for (int[] row : wrong) {
            CHECK.due("stay of others", home.stay(row[0], row[1], row[2], row[3], false), -1);
            CHECK.due("done of others", home.stay(row[0], row[1], row[2], row[3], true), -1);
        }
    }

    private static void stayByLaw() {
        OxenHome home = farmyard();
        Check.rule(home, "heeds yoked=1 and hour=10 and pitch=6 and far<10 and ear>1;");
        home.call(10, 2);
        CHECK.due("far 9", home.stay(0, 1, 0, 12, false), 4);
        CHECK.due("far 9, none hears", home.stay(0, 0, 0, 12, false), -1);
        home.field(0, 0, 0, 9);
        CHECK.due("far 9 of another field", home.stay(0, 1, 2, 12, false), 4);
        CHECK.due("far 9 again", home.stay(4, 1, 1, 12, false), 4);
        home.field(0, 1, 0, 9);
        CHECK.due("far 10", home.stay(0, 1, 3, 12, false), 12);
        home.by(-1);
        CHECK.due("own", home.stay(0, 1, 0, 12, false), 12);
    }

    private static void done() {
        OxenHome home = farmyard();
        CHECK.due("three hours", home.stay(0, 1, 0, 3, true), 21);
        CHECK.due("furrows at most", home.stay(0, 1, 0, 5, true), 30);
        home.call(8, 1);
        CHECK.due("till the call", home.stay(0, 1, 0, 5, true), 14);
        CHECK.due("others than it calls", home.stay(0, 2, 1, 5, true), 40);
        Check.rule(home, "work hour*10-60+weaker;");
        CHECK.due("by law 5 and 15 and 25", home.stay(2, 3, 1, 3, true), 45);
        CHECK.due("by law on a lesser field", home.stay(2, 3, 0, 3, true), 30);
        Check.rule(home, "work soil-6;");
        CHECK.due("0 at least", home.stay(2, 3, 0, 3, true), 0);
        CHECK.due("soil", home.stay(2, 3, 1, 3, true), 3);
        Check.rule(home, "work 5-hour*hour+strength*3;");
        CHECK.due("an hour of 0 in between", home.stay(2, 3, 1, 24, true), 50);
        home.field(0, 0, 0, 99);
        Check.rule(home, "work 9999;");
        CHECK.due("99 at most", home.stay(2, 3, 2, 1, true), 99);
    }

    private static void plan() {
        OxenHome home = new OxenHome();
        CHECK.due("n 0", home.plan(0, -1), -2);
        CHECK.due("n 25", home.plan(25, -1), -2);
        CHECK.due("no field", home.plan(1, 0), -2);
        CHECK.due("nothing", home.plan(24, -1), 0);
        home = farmyard();
        CHECK.due("field -2", home.plan(1, -2), -2);
        CHECK.due("field 2", home.plan(1, 2), -2);
        CHECK.due("n -1", home.plan(-1, 0), -2);
        CHECK.due("one hour", home.plan(1, -1), 22);
        CHECK.due("one hour, field 0", home.plan(1, 0), 12);
        CHECK.due("one hour, field 1", home.plan(1, 1), 34);
        CHECK.due("all is done", home.plan(24, -1), 80);
        CHECK.due("all is done, field 0", home.plan(24, 0), 1);
        CHECK.due("all is done, field 1", home.plan(24, 1), 23);
        home.call(7, 1);
        CHECK.due("but for one hour", home.plan(3, -1), 44);
        CHECK.due("but for one hour, field 0", home.plan(3, 0), 14);
        CHECK.due("but for one hour, field 1", home.plan(3, 1), 23);
    }

    private static void planOfACallOfTheHour() {
        OxenHome home = farmyard();
        home.call(6, 1);
        CHECK.due("those that stay", home.plan(1, -1), 11);
        CHECK.due("those that stay, field 0", home.plan(1, 0), -1);
        CHECK.due("those that stay, field 1", home.plan(1, 1), 23);
        home.call(6, 0);
        CHECK.due("all are called", home.plan(1, -1), 0);
        CHECK.due("none on field 0", home.plan(1, 0), -1);
        CHECK.due("none on field 1", home.plan(1, 1), -1);
        CHECK.due("none in 24", home.plan(24, 1), -1);
    }

    private static void planOfLike() {
        OxenHome home = new OxenHome();
        home.farm(0, 0, 0);
        home.field(0, 0, 0, 0);
        home.field(0, 0, 0, 5);
        home.field(0, 0, 0, 5);
        home.field(0, 0, 0, 9);
        home.ox(0, -1, 5, 0);
        CHECK.due("without two", home.plan(5, -1), 0);
        CHECK.due("none", home.plan(5, 1), -1);
        home.ox(0, -1, 5, 0);
        CHECK.due("a pair", home.plan(5, -1), 9);
        CHECK.due("none where nothing is left", home.plan(5, 0), -1);
        CHECK.due("none", home.plan(5, 1), -1);
        CHECK.due("the pair", home.plan(5, 3), 1);
        home.ox(0, -1, 5, 0);
        home.ox(0, -1, 5, 0);
        CHECK.due("two pairs", home.plan(5, -1), 14);
        CHECK.due("none below all", home.plan(5, 1), -1);
        CHECK.due("the lower pair", home.plan(5, 2), 1);
        CHECK.due("the higher pair", home.plan(5, 3), 23);
        for (int i = 0; i < 4; i++) {
            home.ox(0, -1, 9, 0);
        }
        CHECK.due("four pairs", home.plan(24, -1), 19);
        CHECK.due("no pair", home.plan(24, 0), -1);
        CHECK.due("pair", home.plan(24, 1), 1);
        CHECK.due("pair", home.plan(24, 2), 23);
        CHECK.due("pair", home.plan(24, 3), 45);
    }

    private static void longest() {
        OxenHome home = new OxenHome();
        home.farm(0, 0, 0);
        home.farm(1, 0, 0);
        home.field(0, 0, 0, 0);
        CHECK.due("without oxen", home.longest(0, 5), -1);
        home.ox(0, -1, 1, 1);
        CHECK.due("with one", home.longest(0, 5), -1);
        home.ox(0, -1, 1, 1);
        CHECK.due("with two", home.longest(0, 5), 1);
        home.ox(1, -1, 1, 1);
        home.ox(1, -1, 1, 1);
        CHECK.due("of like ones the lowest", home.longest(0, 5), 1);
        home.call(9, 0);
        CHECK.due("of like ones the lowest in 3", home.longest(0, 3), 1);
        CHECK.due("the longest in 4", home.longest(0, 4), 23);
        home.call(8, 1);
        CHECK.due("who is called later", home.longest(0, 24), 1);
        home.call(7, 0);
        CHECK.due("others", home.longest(0, 24), 23);
        CHECK.due("field -1", home.longest(-1, 5), -1);
        CHECK.due("field 1", home.longest(1, 5), -1);
        CHECK.due("n 1", home.longest(0, 1), 1);
        CHECK.due("n 0", home.longest(0, 0), -1);
        CHECK.due("n 25", home.longest(0, 25), -1);
    }

    /** Where the greatest STAY is 0, the lowest two are still the answer. */
    private static void longestOfACallOfTheHour() {
        OxenHome home = farmyard();
        home.call(6, 1);
        CHECK.due("the lowest that stay", home.longest(0, 24), 2);
        home.call(6, 0);
        CHECK.due("none stays", home.longest(0, 24), 1);
        CHECK.due("none stays, of 1", home.longest(1, 1), 1);
        Check.rule(home, "heeds ox<3;");
        CHECK.due("the two that stay", home.longest(0, 1), 34);
    }

    private static void odds(OxenHome home, int set, int went, int farm, long upper, long lower) {
        CHECK.due("upper of " + farm, home.dark(0, 8, set, went, farm, 0), upper);
        CHECK.due("lower of " + farm, home.dark(0, 8, set, went, farm, 1), lower);
    }

    private static void dark() {
        OxenHome home = farmyard();
        CHECK.due("sets of none", home.dark(0, 8, 0, 0, 0, 0), 1);
        odds(home, 0, 0, 2, 1, 3);
        odds(home, 1, 1, 0, 1, 1);
        odds(home, 1, 1, 1, 0, 1);
        odds(home, 1, 0, 1, 1, 2);
        odds(home, 4, 4, 0, 1, 2);
        odds(home, 31, 13, 0, 1, 1);
        odds(home, 31, 13, 2, 0, 1);
        odds(home, 3, 3, 0, -1, -1);
        long[][] wrong = {{-1, 8, 0, 0, 0, 0}, {2, 8, 0, 0, 0, 0}, {0, -1, 0, 0, 0, 0}, {0, 24, 0, 0, 0, 0},
            {0, 8, -1, 0, 0, 0}, {0, 8, 32, 0, 0, 0}, {0, 8, 1, 2, 0, 0}, {0, 8, 1, -1, 0, 0}, {0, 8, 1, 3, 0, 0},
            {0, 8, 0, 0, -1, 0}, {0, 8, 0, 0, 3, 0}, {0, 8, 0, 0, 0, -1}, {0, 8, 0, 0, 0, 2}};
        for (long[] row : wrong) {
            CHECK.due("dark of others", home.dark((int) row[0], (int) row[1], (int) row[2], (int) row[3],
                (int) row[4], (int) row[5]), -1);
        }
        CHECK.due("dark without farms", new OxenHome().dark(0, 0, 0, 0, 0, 0), -1);
    }

    private static void darkByLaw() {
        OxenHome home = farmyard();
        Check.rule(home, "heeds own=1 and pitch<3 and yoked=0 and hour=8;slip ox+1;calls pitch-farm;");
        // Calls of farm 0: 0 1 2 .. 9, of 1: 0 0 1 .. 8, of 2: 0 0 0 1 .. 7.
        // Ox 0 goes at farm 0 below pitch 3 by 9, else by 1.
        odds(home, 1, 1, 0, 3 * 9 + 42, 69 + 36 + 28);
        // 69 / 133 has no common divisor, 28 / 133 has 7.
        odds(home, 1, 1, 2, 4, 19);
        Check.rule(home, "heeds own=1;slip 99;calls 0-5+pitch;");
        // Calls 0 0 0 0 0 0 1 2 3 4 of each farm; slip 9: 1 for what it should do.
        odds(home, 1, 1, 0, 1, 19);
        odds(home, 1, 0, 0, 9, 11);
        Check.rule(home, "heeds own=1;slip 0-3;calls pitch*5-farm*6;");
        odds(home, 1, 1, 0, 1, 1);
        // Calls of farm 0: 0 5 9 .. 9, of 1: 0 0 4 9 .. 9, of 2: 0 0 0 3 8 9 .. 9.
        odds(home, 0, 0, 0, 77, 77 + 67 + 56);
        Check.rule(home, "calls hour-8;");
        CHECK.due("no weight", home.dark(0, 8, 0, 0, 0, 0), -1);
        CHECK.due("no weight below", home.dark(0, 8, 0, 0, 0, 1), -1);
        CHECK.due("weight an hour later", home.dark(0, 9, 0, 0, 0, 1), 3);
        home = farmyard();
        Check.rule(home, "slip far;");
        // Far 2, 8 and 9 from field 0: ox 1 of farm 1 goes by 2, 10 - 8 = 2, 9.
        odds(home, 2, 2, 0, 2, 13);
    }

    private static void darkGreat() {
        OxenHome home = new OxenHome();
        for (int i = 0; i < 5; i++) {
            home.farm(i, 0, i);
        }
        home.field(0, 0, 0, 0);
        for (int i = 0; i < 8; i++) {
            home.ox(0, -1, 1, 1);
        }
        // Farm 4 has 9 * 10^8 by each of ten pitches, farm 3 the same but for one of 8 * 10^8.
        Check.rule(home, "heeds farm>2;calls farm/3*9-(1-pitch*pitch)*0-(4-farm)*(1-(pitch+9)/10);");
        CHECK.due("upper", home.dark(0, 0, 255, 255, 4, 0), 90);
        CHECK.due("lower", home.dark(0, 0, 255, 255, 4, 1), 179);
    }

    private static void apart() {
        OxenHome home = farmyard();
        CHECK.due("as they are", home.apart(0, 0, -1), 0);
        CHECK.due("as they are by 2", home.apart(2, 0, -1), 0);
        CHECK.due("by 3", home.apart(3, 0, -1), 2);
        CHECK.due("by 3, farm 0", home.apart(3, 0, 0), 1);
        CHECK.due("by 3, farm 1", home.apart(3, 0, 1), 4);
        CHECK.due("by 3, farm 2", home.apart(3, 0, 2), 7);
        CHECK.due("by 4", home.apart(4, 0, -1), 4);
        CHECK.due("by 5", home.apart(5, 0, -1), -1);
        CHECK.due("by 5, farm 0", home.apart(5, 0, 0), -1);
        int[][] wrong = {{-1, 0, 0}, {10, 0, 0}, {0, -1, 0}, {0, 2, 0}, {0, 0, -2}, {0, 0, 3}};
        for (int[] row : wrong) {
            CHECK.due("apart of others", home.apart(row[0], row[1], row[2]), -1);
        }
        home = new OxenHome();
        CHECK.due("without a field", home.apart(0, 0, -1), -1);
        home.field(0, 0, 0, 0);
        CHECK.due("without farms", home.apart(9, 0, -1), 0);
        CHECK.due("without that farm", home.apart(9, 0, 0), -1);
        home.farm(0, 0, 5);
        CHECK.due("one farm", home.apart(9, 0, 0), 5);
        home.farm(0, 0, 5);
        CHECK.due("two farms by 9", home.apart(9, 0, -1), 9);
        CHECK.due("the lowest of farm 0", home.apart(9, 0, 0), 0);
        CHECK.due("the other", home.apart(9, 0, 1), 9);
        CHECK.due("alike by 0", home.apart(0, 0, -1), 0);
    }

    private static void apartByLaw() {
        OxenHome home = new OxenHome();
        home.farm(0, 0, 2);
        home.farm(3, 0, 3);
        home.field(0, 2, 0, 0);
        home.ox(0, 1, 1, 5);
        home.ox(1, -1, 1, 7);
        Check.rule(home, "heeds pitch>ear and yoked=0 and hour=6;");
        // Farm 0: ox 0 (5) heeds it, ox 1 (7) does not: 6 or 7. Farm 1: ox 1 heeds it: 8 or 9.
        CHECK.due("together", home.apart(0, 0, -1), 4 + 5);
        CHECK.due("farm 0", home.apart(0, 0, 0), 6);
        CHECK.due("farm 1", home.apart(0, 0, 1), 8);
        CHECK.due("by 3", home.apart(3, 0, -1), 10);
        CHECK.due("by 3, farm 0", home.apart(3, 0, 0), 6);
        CHECK.due("by 4", home.apart(4, 0, -1), -1);
        home.plough();
        CHECK.due("another hour", home.apart(0, 0, -1), -1);
        home.undo();
        home.ox(1, -1, 1, 5);
        CHECK.due("a stranger heeds it", home.apart(0, 0, -1), -1);
        home = new OxenHome();
        home.farm(0, 0, 2);
        home.farm(3, 0, 3);
        home.field(0, 2, 0, 0);
        home.field(3, 2, 0, 0);
        home.ox(0, -1, 1, 5);
        Check.rule(home, "heeds pitch+far<ear;");
        // From field 0 farm 0 is far 2: below 3 is heeded; farm 1 is far 5: never.
        CHECK.due("farm 0 near", home.apart(0, 0, -1), 0);
        CHECK.due("farm 1 near", home.apart(0, 1, -1), -1);
    }

    private static void thunder() {
        OxenHome home = farmyard();
        home.yoke(0, 1, 0);
        home.yoke(2, 3, 1);
        CHECK.due("own", home.thunder(0, 99), 0);
        Check.rule(home, "heeds pitch=8 and ox=0 or pitch=3 and yoked=0 and farm=-1 and far=0 and own=0;");
        // X by SEED 0: 2, 373, 728, 28534, 22003.
        CHECK.due("2 times", home.thunder(0, 2), 0);
        CHECK.due("3 times", home.thunder(0, 3), 1);
        CHECK.due("4 times", home.thunder(0, 4), 1);
        CHECK.due("5 times: its mate is loose then", home.thunder(0, 5), 2);
        CHECK.due("99 times", home.thunder(0, 99), 2);
        CHECK.due("seed 9999 begins with 129989", home.thunder(9999, 1), 0);
        Check.rule(home, "heeds pitch=9;second 1=1;");
        CHECK.due("seed 9999", home.thunder(9999, 1), 4);
        CHECK.due("where they are", home.of(2, 6), 11);
        CHECK.due("hour", home.about(3), 6);
        int[][] wrong = {{-1, 1}, {10000, 1}, {0, 0}, {0, 100}, {0, -1}};
        for (int[] row : wrong) {
            CHECK.due("thunder of others", home.thunder(row[0], row[1]), -1);
        }
    }

    private static void nothingIsChanged() {
        OxenHome home = farmyard();
        Check.rule(home, "heeds pitch<9;work 3;calls 2;slip 1;");
        home.yoke(0, 1, 0);
        home.call(8, 1);
        home.stay(0, 1, 0, 24, true);
        home.plan(24, -1);
        home.longest(0, 24);
        home.dark(0, 8, 31, 31, 0, 0);
        home.apart(3, 0, -1);
        home.thunder(77, 99);
        home.heeds(0, 0, 0, 0, true);
        CHECK.due("steps", home.about(7), 1);
        CHECK.due("hour", home.about(3), 6);
        CHECK.due("furrows", home.about(20), 30);
        CHECK.due("at", home.of(0, 6), 10);
        CHECK.due("mate", home.of(0, 7), 1);
        CHECK.due("pitch", home.about(10), 2);
        CHECK.due("plough", home.plough(), 3);
    }
}
