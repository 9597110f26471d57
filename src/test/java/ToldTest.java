/** Promises 1 to 4, 18, 20, 21, 30: what is told and what is told of it. */
public final class ToldTest {
    private static final int LOW = Integer.MIN_VALUE;
    private static final int HIGH = Integer.MAX_VALUE;
    private static final Check CHECK = new Check("ToldTest");

    public static void main(String[] args) {
        newObject();
        farms();
        fields();
        oxen();
        ofOxen();
        calls();
        about();
        CHECK.close();
    }

    private static void newObject() {
        OxenHome home = new OxenHome();
        CHECK.due("NONE", OxenHome.NONE, -1);
        for (int what = 0; what <= 8; what++) {
            CHECK.due("new about " + what, home.about(what), what == 3 ? 6 : what == 5 ? -1 : 0);
        }
        CHECK.due("new about 10", home.about(10), -2);
        CHECK.due("new about 20", home.about(20), -2);
        home.farm(1, 1, 1);
        home.field(1, 1, 1, 1);
        home.ox(0, -1, 1, 1);
        home.call(3, 0);
        Check.rule(home, "work 3;");
        home.plough();
        CHECK.due("back to the new object", home.back(), 6);
        for (int what = 0; what <= 7; what++) {
            CHECK.due("back about " + what, home.about(what), what == 3 ? 6 : what == 5 ? -1 : 0);
        }
    }

    private static void farms() {
        OxenHome home = new OxenHome();
        int[][] wrong = {{-1, 0, 0}, {20, 0, 0}, {0, -1, 0}, {0, 20, 0}, {0, 0, -1}, {0, 0, 10},
            {LOW, 0, 0}, {0, HIGH, 0}, {0, 0, LOW}};
        for (int[] row : wrong) {
            CHECK.due("wrong farm", home.farm(row[0], row[1], row[2]), -1);
        }
        CHECK.due("farms", home.about(0), 0);
        CHECK.due("lowest farm", home.farm(0, 0, 0), 0);
        CHECK.due("highest farm", home.farm(19, 19, 9), 1);
        CHECK.due("like farm", home.farm(19, 19, 9), 2);
        CHECK.due("farm 3", home.farm(3, 4, 5), 3);
        CHECK.due("farm 4", home.farm(4, 4, 4), 4);
        CHECK.due("farm 5", home.farm(4, 4, 4), -1);
        CHECK.due("farms", home.about(0), 5);
        CHECK.due("pitch 1", home.about(11), 9);
        CHECK.due("pitch 3", home.about(13), 5);
        CHECK.due("farm steps", home.about(7), 0);
    }

    private static void fields() {
        OxenHome home = new OxenHome();
        int[][] wrong = {{-1, 0, 0, 0}, {20, 0, 0, 0}, {0, -1, 0, 0}, {0, 20, 0, 0}, {0, 0, -1, 0},
            {0, 0, 10, 0}, {0, 0, 0, -1}, {0, 0, 0, 100}, {0, 0, LOW, HIGH}};
        for (int[] row : wrong) {
            CHECK.due("wrong field", home.field(row[0], row[1], row[2], row[3]), -1);
        }
        CHECK.due("lowest field", home.field(0, 0, 0, 0), 0);
        CHECK.due("highest field", home.field(19, 19, 9, 99), 1);
        CHECK.due("field 2", home.field(2, 2, 2, 22), 2);
        CHECK.due("field 3", home.field(3, 2, 2, 33), 3);
        CHECK.due("field 4", home.field(3, 2, 2, 33), -1);
        CHECK.due("fields", home.about(1), 4);
        CHECK.due("furrows 0", home.about(20), 0);
        CHECK.due("furrows 1", home.about(21), 99);
        CHECK.due("furrows 3", home.about(23), 33);
    }

    private static void oxen() {
        OxenHome home = new OxenHome();
        CHECK.due("ox without a farm", home.ox(0, -1, 1, 1), -1);
        home.farm(0, 0, 0);
        home.farm(1, 1, 1);
        int[][] wrong = {{-1, 0, 1, 0}, {2, 0, 1, 0}, {0, -2, 1, 0}, {0, 2, 1, 0}, {0, 0, 0, 0},
            {0, 0, 10, 0}, {0, 0, 1, -1}, {0, 0, 1, 10}, {HIGH, LOW, HIGH, LOW}};
        for (int[] row : wrong) {
            CHECK.due("wrong ox", home.ox(row[0], row[1], row[2], row[3]), -1);
        }
        CHECK.due("oxen", home.about(2), 0);
        CHECK.due("lowest ox", home.ox(0, -1, 1, 0), 0);
        CHECK.due("highest ox", home.ox(1, 1, 9, 9), 1);
        for (int ox = 2; ox < 8; ox++) {
            CHECK.due("ox " + ox, home.ox(0, 1, 5, 5), ox);
        }
        CHECK.due("ox 8", home.ox(0, 1, 5, 5), -1);
        CHECK.due("oxen", home.about(2), 8);
    }

    private static void ofOxen() {
        OxenHome home = new OxenHome();
        home.farm(0, 0, 0);
        home.farm(1, 1, 1);
        home.field(3, 3, 3, 33);
        home.ox(1, -1, 7, 3);
        home.ox(0, 1, 2, 9);
        ofIs(home, 0, new int[] {1, -1, 7, 3, 1, 0, 1, -1});
        ofIs(home, 1, new int[] {0, 1, 2, 9, 0, 0, 0, -1});
        home.yoke(0, 1, 0);
        ofIs(home, 0, new int[] {1, -1, 7, 3, 1, 0, 10, 1});
        ofIs(home, 1, new int[] {0, 1, 2, 9, 0, 0, 10, 0});
        int[][] wrong = {{-1, 0}, {2, 0}, {0, -1}, {0, 8}, {HIGH, 0}, {LOW, 0}, {0, HIGH}, {0, LOW}};
        for (int[] row : wrong) {
            CHECK.due("wrong of", home.of(row[0], row[1]), -2);
        }
    }

    private static void ofIs(OxenHome home, int ox, int[] due) {
        for (int what = 0; what < 8; what++) {
            CHECK.due("of " + ox + " " + what, home.of(ox, what), due[what]);
        }
    }

    private static void calls() {
        OxenHome home = new OxenHome();
        CHECK.due("call without a farm", home.call(0, 0), -1);
        home.farm(0, 0, 0);
        CHECK.due("hour below", home.call(-1, 0), -1);
        CHECK.due("hour above", home.call(24, 0), -1);
        CHECK.due("farm below", home.call(0, -1), -1);
        CHECK.due("farm above", home.call(0, 1), -1);
        CHECK.due("hush without", home.hush(), 0);
        for (int i = 1; i <= 8; i++) {
            CHECK.due("call " + i, home.call(i % 2 == 0 ? 23 : 0, 0), i);
        }
        CHECK.due("call 9", home.call(5, 0), -1);
        CHECK.due("calls", home.about(6), 8);
        CHECK.due("hush", home.hush(), 8);
        CHECK.due("no calls", home.about(6), 0);
        CHECK.due("hush again", home.hush(), 0);
        CHECK.due("call anew", home.call(5, 0), 1);
        CHECK.due("no steps", home.about(7), 0);
    }

    private static void about() {
        OxenHome home = new OxenHome();
        home.farm(0, 0, 4);
        home.farm(0, 0, 6);
        home.field(0, 0, 0, 50);
        home.ox(0, 1, 1, 1);
        home.plough();
        home.call(4, 1);
        Check.rule(home, "slip 1;");
        home.feed(1, 2, 3, 4, 5);
        int[] due = {2, 1, 1, 7, 1, 0, 1, 1, 20};
        for (int what = 0; what < due.length; what++) {
            CHECK.due("about " + what, home.about(what), due[what]);
        }
        CHECK.due("pitch 0", home.about(10), 4);
        CHECK.due("pitch 1", home.about(11), 6);
        CHECK.due("furrows", home.about(20), 50);
        int[] wrong = {-1, -2, 9, 12, 14, 15, 19, 21, 23, 24, HIGH, LOW, LOW + 10, LOW + 25};
        for (int what : wrong) {
            CHECK.due("about " + what, home.about(what), -2);
        }
    }
}
