import java.io.IOException;
import java.util.function.ToLongFunction;

/** Promises 22 to 27, sentence by sentence, at the bounds that each names. */
public final class SearchBoundsTest {
    private static final int LOW = Integer.MIN_VALUE;
    private static final int HIGH = Integer.MAX_VALUE;
    private static final int[] NO_OXEN = {-1, 5, 6, 8, 10, LOW, HIGH};
    private static final int[] NO_FIELDS = {-1, 2, 3, 4, 10, LOW, HIGH};
    private static final int[] NO_FARMS = {-1, 3, 4, 5, 10, LOW, HIGH};
    private static final int[] NO_SPANS = {0, -1, 25, 26, LOW, HIGH};
    private static final Check CHECK = new Check("SearchBoundsTest");

    public static void main(String[] args) throws IOException {
        Document document = new Document();
        promise22();
        document.covered(CHECK, 22);
        promise23();
        document.covered(CHECK, 23);
        promise24();
        document.covered(CHECK, 24);
        promise25();
        document.covered(CHECK, 25);
        promise26();
        document.covered(CHECK, 26);
        promise27();
        document.covered(CHECK, 27);
        CHECK.close();
    }

    private static void still(String what, ToLongFunction<OxenHome> call, long due) {
        Yards.refused(CHECK, what, call, due);
    }

    /** It is 7 in a lived yard; CALLS at 9 by farm 1 and at 12 by farm 0. */
    private static void promise22() {
        CHECK.quote("STAY (done false), DONE (true).");
        still("stay", it -> it.stay(2, 3, 1, 24, false), 5);
        still("done", it -> it.stay(2, 3, 1, 24, true), 50);
        still("stay of 1", it -> it.stay(2, 3, 1, 1, false), 1);
        still("done of 1", it -> it.stay(2, 3, 1, 1, true), 10);
        still("stay with one that is called", it -> it.stay(4, 2, 0, 24, false), 2);
        still("done with one that is called", it -> it.stay(4, 2, 0, 24, true), 22);
        still("the highest of all", it -> it.stay(4, 3, 1, 24, false), 2);
        CHECK.quote("NONE for others.");
        for (int i = 0; i < 2; i++) {
            boolean done = i == 1;
            for (int off : NO_OXEN) {
                still("stay of one " + off, it -> it.stay(off, 1, 0, 5, done), -1);
                still("stay of other " + off, it -> it.stay(1, off, 0, 5, done), -1);
            }
            for (int ox = 0; ox < 5; ox++) {
                int like = ox;
                still("stay of like ones " + ox, it -> it.stay(like, like, 0, 5, done), -1);
            }
            for (int off : NO_FIELDS) {
                still("stay on field " + off, it -> it.stay(0, 1, off, 5, done), -1);
            }
            for (int off : NO_SPANS) {
                still("stay for " + off, it -> it.stay(0, 1, 0, off, done), -1);
            }
        }
    }

    private static void promise23() {
        CHECK.quote("PLAN: what is DONE together (field NONE);");
        still("plan of 1", it -> it.plan(1, -1), 20);
        // 2 and 3 stay five hours by 10 each, 1 and 4 two hours.
        still("plan of 24", it -> it.plan(24, -1), 70);
        OxenHome home = new OxenHome();
        CHECK.due("without anything", home.plan(1, -1), 0);
        home.field(0, 0, 0, 9);
        CHECK.due("without oxen", home.plan(24, -1), 0);
        home.farm(0, 0, 0);
        home.ox(0, -1, 1, 1);
        CHECK.due("with one", home.plan(24, -1), 0);
        home.ox(0, -1, 2, 1);
        CHECK.due("with two", home.plan(1, -1), 3);
        CHECK.due("with two for 24", home.plan(24, -1), 9);
        CHECK.quote("on a FIELD 10 times the lower OX and the other one (NONE: none).");
        still("plan of 1, field 0", it -> it.plan(1, 0), 12);
        still("plan of 1, field 1", it -> it.plan(1, 1), 34);
        home = new OxenHome();
        home.field(0, 0, 0, 9);
        CHECK.due("without oxen", home.plan(24, 0), -1);
        home.farm(0, 0, 0);
        home.ox(0, -1, 1, 1);
        CHECK.due("with one", home.plan(24, 0), -1);
        home.ox(0, -1, 1, 1);
        CHECK.due("0 and 1", home.plan(24, 0), 1);
        home.ox(0, -1, 9, 1);
        CHECK.due("1 and 2 are like 0 and 2", home.plan(1, 0), 2);
        home.field(0, 0, 0, 0);
        CHECK.due("none where there is nothing to plough", home.plan(1, 1), -1);
        CHECK.quote("-2 for others.");
        for (int off : NO_SPANS) {
            still("plan for " + off, it -> it.plan(off, 0), -2);
            still("plan together for " + off, it -> it.plan(off, -1), -2);
        }
        for (int off : new int[] {-2, 2, 3, 4, 10, LOW, HIGH}) {
            still("plan on field " + off, it -> it.plan(5, off), -2);
        }
        CHECK.due("plan on a field without any", new OxenHome().plan(5, 0), -2);
    }

    private static void promise24() {
        CHECK.quote("LONGEST: 10 times the lower OX and the other one.");
        still("longest of 24", it -> it.longest(0, 24), 23);
        still("longest of 2", it -> it.longest(0, 2), 1);
        still("longest of 1", it -> it.longest(1, 1), 1);
        still("longest of 3", it -> it.longest(1, 3), 23);
        OxenHome home = Yards.crowded();
        home.by(-1);
        home.hush();
        CHECK.due("without calls", home.longest(3, 24), 1);
        for (int farm = 0; farm < 5; farm++) {
            home.call(8, farm);
        }
        CHECK.due("all go at once", home.longest(3, 24), 1);
        home = Yards.farmyard();
        home.ox(0, -1, 1, 1);
        home.ox(0, -1, 1, 1);
        home.ox(0, -1, 1, 1);
        Check.rule(home, "heeds ox<6;");
        home.call(9, 0);
        CHECK.due("the highest two", home.longest(1, 24), 67);
        CHECK.quote("NONE for others, and without two OXEN.");
        for (int off : NO_FIELDS) {
            still("longest on field " + off, it -> it.longest(off, 5), -1);
        }
        for (int off : NO_SPANS) {
            still("longest for " + off, it -> it.longest(0, off), -1);
        }
        home = new OxenHome();
        home.farm(0, 0, 0);
        home.field(0, 0, 0, 0);
        CHECK.due("without oxen", home.longest(0, 5), -1);
        home.ox(0, -1, 1, 1);
        CHECK.due("with one", home.longest(0, 5), -1);
        home.ox(0, -1, 1, 1);
        CHECK.due("with two", home.longest(0, 5), 1);
        CHECK.due("with two on another field", home.longest(1, 5), -1);
    }

    private static void promise25() {
        CHECK.quote("DARK: ODDS of a FARM: the upper (0), the lower one (1).");
        still("upper of 0", it -> it.dark(0, 8, 1, 1, 0, 0), 9);
        still("lower of 0", it -> it.dark(0, 8, 1, 1, 0, 1), 19);
        still("upper of 1", it -> it.dark(0, 8, 1, 1, 1, 0), 9);
        still("upper of 2", it -> it.dark(0, 8, 1, 1, 2, 0), 1);
        still("lower of 2", it -> it.dark(0, 8, 1, 1, 2, 1), 19);
        // By farm 0 and by farm 1 three of all heed and two slip, by farm 2 two heed: 729, 729, 81.
        still("hour 0", it -> it.dark(1, 0, 31, 31, 0, 0), 9);
        still("hour 23", it -> it.dark(1, 23, 31, 31, 2, 1), 19);
        still("the empty set", it -> it.dark(0, 8, 0, 0, 1, 1), 3);
        CHECK.quote("NONE for others, and if all WEIGHTS are 0.");
        for (int what = 0; what <= 1; what++) {
            darkOfOthers(what);
        }
        for (int off : new int[] {-1, 2, 3, LOW, HIGH}) {
            still("dark, what " + off, it -> it.dark(0, 8, 1, 1, 0, off), -1);
        }
        OxenHome home = Yards.farmyard();
        for (int what = 0; what <= 1; what++) {
            CHECK.due("each farm calls one of them", home.dark(0, 8, 7, 0, 0, what), -1);
            CHECK.due("who calls 1 calls 0 too", home.dark(0, 8, 3, 2, 0, what), -1);
            CHECK.due("farm 0 calls 0 alone", home.dark(0, 8, 3, 1, 0, what), 1);
            CHECK.due("so farm 1 has not", home.dark(0, 8, 3, 1, 1, what), what);
        }
    }

    private static void darkOfOthers(int what) {
        for (int off : NO_FIELDS) {
            still("dark on field " + off, it -> it.dark(off, 8, 1, 1, 0, what), -1);
        }
        for (int off : new int[] {-1, 24, 25, LOW, HIGH}) {
            still("dark at hour " + off, it -> it.dark(0, off, 1, 1, 0, what), -1);
        }
        for (int off : new int[] {-1, 32, 33, 255, 256, LOW, HIGH}) {
            still("dark of set " + off, it -> it.dark(0, 8, off, 0, 0, what), -1);
        }
        for (int off : new int[] {-1, -2, 4, 5, 32, 256, LOW, HIGH}) {
            still("dark of set 3 went " + off, it -> it.dark(0, 8, 3, off, 0, what), -1);
        }
        still("dark of none went one", it -> it.dark(0, 8, 0, 1, 0, what), -1);
        for (int off : NO_FARMS) {
            still("dark of farm " + off, it -> it.dark(0, 8, 1, 1, off, what), -1);
        }
    }

    private static void promise26() {
        CHECK.quote("APART: by how much PITCHES change (farm NONE);");
        still("by 0", it -> it.apart(0, 0, -1), 0);
        still("by 2", it -> it.apart(2, 0, -1), 0);
        still("by 3", it -> it.apart(3, 1, -1), 2);
        OxenHome home = new OxenHome();
        home.field(0, 0, 0, 0);
        CHECK.due("without farms", home.apart(0, 0, -1), 0);
        home.farm(0, 0, 5);
        CHECK.due("with one, by 9", home.apart(9, 0, -1), 0);
        home.farm(0, 0, 5);
        CHECK.due("with two, by 9", home.apart(9, 0, -1), 9);
        CHECK.quote("the PITCH of a FARM.");
        still("by 3, of 0", it -> it.apart(3, 0, 0), 1);
        still("by 3, of 1", it -> it.apart(3, 0, 1), 4);
        still("by 3, of 2", it -> it.apart(3, 0, 2), 7);
        CHECK.due("by 9, of 0", home.apart(9, 0, 0), 0);
        CHECK.due("by 9, of 1", home.apart(9, 0, 1), 9);
        CHECK.due("as it is", home.about(10), 5);
        CHECK.quote("NONE: there is none, and for others.");
        still("three by 5", it -> it.apart(5, 0, -1), -1);
        still("three by 5, of 0", it -> it.apart(5, 0, 0), -1);
        still("three by 9, of 2", it -> it.apart(9, 0, 2), -1);
        home.farm(0, 0, 5);
        CHECK.due("with three, by 9", home.apart(9, 0, -1), -1);
        CHECK.due("with three, by 4", home.apart(4, 0, -1), 8);
        for (int off : new int[] {-1, 10, 11, LOW, HIGH}) {
            still("apart by " + off, it -> it.apart(off, 0, 0), -1);
            still("apart together by " + off, it -> it.apart(off, 0, -1), -1);
        }
        for (int off : NO_FIELDS) {
            still("apart on field " + off, it -> it.apart(1, off, 0), -1);
            still("apart together on field " + off, it -> it.apart(1, off, -1), -1);
        }
        for (int off : new int[] {-2, 3, 4, 5, 10, LOW, HIGH}) {
            still("apart of farm " + off, it -> it.apart(1, 0, off), -1);
        }
        CHECK.due("without fields", new OxenHome().apart(0, 0, -1), -1);
    }

    private static OxenHome thunderstruck() {
        OxenHome home = Yards.lived();
        Check.rule(home, "heeds pitch=2 and ox=0 or pitch=9 and ox=4;");
        return home;
    }

    private static void promise27() {
        CHECK.quote("THUNDER.");
        Yards.still(CHECK, "the lowest of all", SearchBoundsTest::thunderstruck, it -> it.thunder(0, 1), 1);
        Yards.still(CHECK, "the highest seed", SearchBoundsTest::thunderstruck, it -> it.thunder(9999, 1), 1);
        Yards.still(CHECK, "the most times", SearchBoundsTest::thunderstruck, it -> it.thunder(0, 99), 2);
        Yards.still(CHECK, "the highest of all", SearchBoundsTest::thunderstruck, it -> it.thunder(9999, 99), 2);
        still("without a law", it -> it.thunder(0, 99), 0);
        CHECK.due("without oxen", new OxenHome().thunder(9999, 99), 0);
        CHECK.quote("NONE for others.");
        for (int off : new int[] {-1, -2, 10000, 10001, LOW, HIGH}) {
            still("thunder of seed " + off, it -> it.thunder(off, 1), -1);
        }
        for (int off : new int[] {0, -1, 100, 101, LOW, HIGH}) {
            still("thunder times " + off, it -> it.thunder(0, off), -1);
        }
        CHECK.due("of others without oxen", new OxenHome().thunder(0, 0), -1);
    }
}
