import java.io.IOException;
import java.util.function.ToLongFunction;

/** Promises 1 to 9, 18 to 21 and 30, sentence by sentence, at the bounds that each names. */
public final class ToldBoundsTest {
    private static final int LOW = Integer.MIN_VALUE;
    private static final int HIGH = Integer.MAX_VALUE;
    private static final Check CHECK = new Check("ToldBoundsTest");

    public static void main(String[] args) throws IOException {
        Document document = new Document();
        promise1();
        document.covered(CHECK, 1);
        promise2();
        document.covered(CHECK, 2);
        promise3();
        document.covered(CHECK, 3);
        promise4();
        document.covered(CHECK, 4);
        promise5();
        document.covered(CHECK, 5);
        promise6();
        document.covered(CHECK, 6);
        promise7();
        document.covered(CHECK, 7);
        promise8();
        document.covered(CHECK, 8);
        promise9();
        document.covered(CHECK, 9);
        promise18();
        document.covered(CHECK, 18);
        promise19();
        document.covered(CHECK, 19);
        promise20();
        document.covered(CHECK, 20);
        promise21();
        document.covered(CHECK, 21);
        promise30();
        document.covered(CHECK, 30);
        constant();
        CHECK.close();
    }

    private static void refused(String what, ToLongFunction<OxenHome> call, long due) {
        Yards.refused(CHECK, what, call, due);
    }

    private static void fullRefuses(String what, ToLongFunction<OxenHome> call, long due) {
        Yards.still(CHECK, what, Yards::crowded, call, due);
    }

    private static int bit(boolean so) {
        return so ? 1 : 0;
    }

    private static void constant() {
        CHECK.due("NONE", OxenHome.NONE, -1);
    }

    private static void promise1() {
        CHECK.quote("No FARMS;");
        OxenHome home = new OxenHome();
        int[] due = {0, 0, 0, 6, 0, -1, 0, 0, 0};
        for (int what = 0; what < due.length; what++) {
            CHECK.due("about " + what, home.about(what), due[what]);
        }
        for (int what = 9; what < 30; what++) {
            CHECK.due("about " + what, home.about(what), -2);
        }
        CHECK.due("an ox", home.ox(0, -1, 1, 1), -1);
        CHECK.due("a whistle", home.whistle(0), -1);
        CHECK.due("a drive", home.drive(0, 0), false);
        CHECK.due("a sale", home.sell(0, 0), false);
        CHECK.due("a call", home.call(6, 0), -1);
        CHECK.due("of", home.of(0, 0), -2);
        CHECK.due("a yoke", home.yoke(0, 1, 0), false);
        CHECK.due("loose", home.loose(0), false);
        CHECK.due("heeds", home.heeds(0, 0, 0, 0, false), false);
        CHECK.due("stay", home.stay(0, 1, 0, 1, false), -1);
        CHECK.due("plan", home.plan(1, -1), 0);
        CHECK.due("plan of a field", home.plan(1, 0), -2);
        CHECK.due("longest", home.longest(0, 1), -1);
        CHECK.due("dark", home.dark(0, 0, 0, 0, 0, 0), -1);
        CHECK.due("apart", home.apart(0, 0, -1), -1);
        CHECK.due("thunder", home.thunder(0, 1), 0);
        CHECK.due("undo", home.undo(), -1);
        CHECK.due("night", home.night(), 0);
        CHECK.due("plough", home.plough(), 0);
        CHECK.quote("THE IMAGE is this.");
        lived(home);
        CHECK.due("back", home.back(), 6);
        for (int what = 0; what <= 7; what++) {
            CHECK.due("about " + what + " again", home.about(what), due[what]);
        }
        CHECK.due("the tape stays", home.about(8), 40);
        CHECK.due("no step is back", home.undo(), -1);
        CHECK.due("the first farm again", home.farm(1, 1, 1), 0);
        CHECK.due("the first field again", home.field(1, 1, 1, 1), 0);
        CHECK.due("the first ox again", home.ox(0, -1, 1, 1), 0);
        CHECK.due("the first call again", home.call(1, 0), 1);
        CHECK.due("the first text again", Check.tell(home, "work 1;"), 0);
    }

    private static void lived(OxenHome home) {
        home.farm(1, 2, 3);
        home.field(1, 2, 3, 4);
        home.ox(0, -1, 1, 1);
        home.ox(0, -1, 1, 1);
        home.call(3, 0);
        Check.rule(home, "work 1;");
        home.yoke(0, 1, 0);
        home.plough();
        home.feed(0, 0, 0, 0, 0);
        home.feed(0, 0, 0, 0, 0);
    }

    private static void promise2() {
        CHECK.quote("A FARM: its number.");
        OxenHome home = new OxenHome();
        for (int farm = 0; farm < 5; farm++) {
            CHECK.due("farm", home.farm(farm, 19 - farm, 9 - farm), farm);
            CHECK.due("farms", home.about(0), farm + 1);
            CHECK.due("its pitch", home.about(10 + farm), 9 - farm);
            CHECK.due("no more yet", home.about(11 + farm), -2);
        }
        for (int corner = 0; corner < 8; corner++) {
            OxenHome one = new OxenHome();
            int pitch = (corner >> 2) * 9;
            CHECK.due("corner " + corner, one.farm((corner & 1) * 19, (corner >> 1 & 1) * 19, pitch), 0);
            CHECK.due("pitch of corner " + corner, one.about(10), pitch);
        }
        CHECK.quote("NONE for others, or if there are 5.");
        for (int off : new int[] {-1, 20, LOW, HIGH}) {
            refused("farm at x " + off, it -> it.farm(off, 5, 5), -1);
            refused("farm at y " + off, it -> it.farm(5, off, 5), -1);
        }
        for (int off : new int[] {-1, 10, LOW, HIGH}) {
            refused("farm of pitch " + off, it -> it.farm(5, 5, off), -1);
        }
        fullRefuses("a sixth farm", it -> it.farm(5, 5, 5), -1);
        fullRefuses("a sixth farm of others", it -> it.farm(-1, 5, 5), -1);
    }

    private static void promise3() {
        CHECK.quote("A FIELD: its number.");
        OxenHome home = new OxenHome();
        for (int field = 0; field < 4; field++) {
            CHECK.due("field", home.field(field, 19 - field, field, 99 - field), field);
            CHECK.due("fields", home.about(1), field + 1);
            CHECK.due("its furrows", home.about(20 + field), 99 - field);
            CHECK.due("no more yet", home.about(21 + field), -2);
        }
        for (int corner = 0; corner < 16; corner++) {
            OxenHome one = new OxenHome();
            int furrows = (corner >> 3) * 99;
            int made = one.field((corner & 1) * 19, (corner >> 1 & 1) * 19, (corner >> 2 & 1) * 9, furrows);
            CHECK.due("corner " + corner, made, 0);
            CHECK.due("furrows of corner " + corner, one.about(20), furrows);
        }
        CHECK.quote("NONE for others, or if there are 4.");
        for (int off : new int[] {-1, 20, LOW, HIGH}) {
            refused("field at x " + off, it -> it.field(off, 5, 5, 5), -1);
            refused("field at y " + off, it -> it.field(5, off, 5, 5), -1);
        }
        for (int off : new int[] {-1, 10, LOW, HIGH}) {
            refused("field of soil " + off, it -> it.field(5, 5, off, 5), -1);
        }
        for (int off : new int[] {-1, 100, LOW, HIGH}) {
            refused("field of furrows " + off, it -> it.field(5, 5, 5, off), -1);
        }
        fullRefuses("a fifth field", it -> it.field(5, 5, 5, 5), -1);
        fullRefuses("a fifth field of others", it -> it.field(5, 5, 5, -1), -1);
    }

    private static void promise4() {
        CHECK.quote("An OX: its number.");
        OxenHome home = new OxenHome();
        home.farm(0, 0, 0);
        home.farm(1, 0, 0);
        for (int ox = 0; ox < 8; ox++) {
            CHECK.due("ox", home.ox(ox % 2, ox % 3 - 1, ox + 1, 9 - ox), ox);
            CHECK.due("oxen", home.about(2), ox + 1);
            int[] due = {ox % 2, ox % 3 - 1, ox + 1, 9 - ox, ox % 2, 0, ox % 2, -1};
            for (int what = 0; what < 8; what++) {
                CHECK.due("of " + ox + " " + what, home.of(ox, what), due[what]);
            }
            CHECK.due("no more yet", home.of(ox + 1, 0), -2);
        }
        home = Yards.farmyard();
        CHECK.due("the lowest of all", home.ox(0, -1, 1, 0), 5);
        CHECK.due("the highest of all", home.ox(2, 2, 9, 9), 6);
        CHECK.quote("NONE for others, or if there are 8.");
        for (int off : new int[] {-1, 3, 4, 10, LOW, HIGH}) {
            refused("ox of home " + off, it -> it.ox(off, 0, 5, 5), -1);
        }
        for (int off : new int[] {-2, 3, 4, 10, LOW, HIGH}) {
            refused("ox of second " + off, it -> it.ox(0, off, 5, 5), -1);
        }
        for (int off : new int[] {-1, 0, 10, LOW, HIGH}) {
            refused("ox of strength " + off, it -> it.ox(0, 1, off, 5), -1);
        }
        for (int off : new int[] {-1, 10, LOW, HIGH}) {
            refused("ox of ear " + off, it -> it.ox(0, 1, 5, off), -1);
        }
        fullRefuses("a ninth ox", it -> it.ox(0, 1, 5, 5), -1);
        fullRefuses("a ninth ox of others", it -> it.ox(5, 1, 5, 5), -1);
        fullRefuses("a ninth ox without a second", it -> it.ox(0, -1, 5, 5), -1);
    }

    private static void promise5() {
        CHECK.quote("Twenty bytes come behind the tape, the highest of a first: how many it has.");
        for (int sign : new int[] {0, 9, 11, 31, 33, 127, 128, 255}) {
            OxenHome home = new OxenHome();
            for (int at = 0; at < 20; at++) {
                CHECK.due("behind none", feedSign(home, at, sign), 20);
                CHECK.due("it is none that can stand there", home.text(), -1);
                CHECK.due("its place", home.fault(1), at);
            }
        }
        OxenHome home = new OxenHome();
        for (int i = 1; i <= 15; i++) {
            CHECK.due("feed " + i, home.feed(0x20202020, 0x20202020, 0x20202020, 0x20202020, 0x20202020), 20 * i);
            CHECK.due("bytes " + i, home.about(8), 20 * i);
        }
        CHECK.due("all are blanks", home.text(), 0);
        home.feed(0x0A0A0A0A, 0x20202020, 0x0A0A0A0A, 0x20202020, 0x0A0A0A0A);
        home.end(7);
        CHECK.due("behind seven", feedSign(home, 0, '!'), 27);
        home.text();
        CHECK.due("its place behind seven", home.fault(1), 7);
        Check.fill(home, " ".repeat(280));
        CHECK.due("behind 280", feedSign(home, 19, 255), 300);
        home.text();
        CHECK.due("its place behind 280", home.fault(1), 299);
        CHECK.quote("NONE, and none come, if there would be more than 300.");
        for (int bytes : new int[] {281, 282, 290, 299, 300}) {
            Yards.still(CHECK, "feed behind " + bytes, () -> withBytes(bytes), it -> feedSign(it, 0, '!'), -1);
        }
        home = withBytes(300);
        home.feed(0, 0, 0, 0, 0);
        home.end(280);
        CHECK.due("behind 280 of 300", home.feed(0x20202020, 0x20202020, 0x20202020, 0x20202020, 0x20202020), 300);
        CHECK.due("as if none had come", home.text(), 1);
    }

    private static OxenHome withBytes(int bytes) {
        OxenHome home = Yards.lived();
        Check.fill(home, "work 7;" + " ".repeat(bytes - 7));
        return home;
    }

    /** Twenty blanks, but one sign among them. */
    private static int feedSign(OxenHome home, int at, int sign) {
        int[] words = {0x20202020, 0x20202020, 0x20202020, 0x20202020, 0x20202020};
        int shift = 24 - at % 4 * 8;
        words[at / 4] = words[at / 4] & ~(255 << shift) | sign << shift;
        return home.feed(words[0], words[1], words[2], words[3], words[4]);
    }

    private static void promise6() {
        CHECK.quote("The tape has its first n bytes alone: n.");
        OxenHome home = new OxenHome();
        CHECK.due("none of none", home.end(0), 0);
        for (int n = 0; n <= 20; n++) {
            home.end(0);
            home.feed(0x20202020, 0x20202020, 0x20202020, 0x20202020, 0x20202021);
            CHECK.due("the first " + n, home.end(n), n);
            CHECK.due("bytes", home.about(8), n);
        }
        CHECK.due("none of some", home.end(0), 0);
        CHECK.due("bytes", home.about(8), 0);
        Check.fill(home, " ".repeat(299) + "!");
        CHECK.due("all 300", home.end(300), 300);
        CHECK.due("all but one", home.end(299), 299);
        CHECK.due("the first bytes are left", home.text(), 0);
        Check.fill(home, "work 1;work 2;");
        home.end(7);
        CHECK.due("the first seven bytes are left", home.text(), 1);
        CHECK.quote("NONE, and nothing is done, if it has not so many, or n is below 0.");
        for (int n : new int[] {-1, -2, -7, 8, 9, 20, 300, 301, LOW, HIGH}) {
            refused("end " + n + " of seven", it -> it.end(n), -1);
        }
        home = new OxenHome();
        CHECK.due("one of none", home.end(1), -1);
        CHECK.due("below none", home.end(-1), -1);
        Check.fill(home, " ".repeat(300));
        CHECK.due("301 of 300", home.end(301), -1);
        CHECK.due("bytes", home.about(8), 300);
    }

    private static void promise7() {
        CHECK.quote("The tape (empty then) is a TEXT: its number.");
        OxenHome home = new OxenHome();
        CHECK.due("an empty tape", home.text(), 0);
        Check.fill(home, " ".repeat(292) + "work 11;");
        CHECK.due("a full tape", home.text(), 1);
        CHECK.due("bytes", home.about(8), 0);
        CHECK.due("fault", home.fault(0), 0);
        Check.fill(home, "work 3;");
        CHECK.due("the third", home.text(), 2);
        CHECK.due("bytes", home.about(8), 0);
        CHECK.due("the fourth", home.text(), 3);
        CHECK.due("texts", home.about(4), 4);
        CHECK.due("none rules by itself", home.about(5), -1);
        workBy(home, 0, 2);
        workBy(home, 1, 11);
        workBy(home, 2, 3);
        workBy(home, 3, 2);
        CHECK.quote("NONE: it has a FAULT;");
        home = new OxenHome();
        Check.tell(home, "work 4;");
        for (String text : new String[] {"work", "work 10000;", "work (((((((((1", "work 5;work 6;", "work ear;"}) {
            Check.fill(home, text);
            CHECK.due("bytes of " + text, home.about(8), text.length());
            CHECK.due("text of " + text, home.text(), -1);
            CHECK.due("bytes behind it", home.about(8), 0);
            CHECK.due("texts", home.about(4), 1);
            CHECK.due("by it", home.by(1), false);
        }
        CHECK.due("the next", Check.tell(home, "slip 1;"), 1);
        workBy(home, 1, 2);
        workBy(home, 0, 4);
        CHECK.quote("or (the tape stays) there are 4.");
        fullRefuses("a fifth text of blanks", it -> it.text(), -1);
        Yards.still(CHECK, "a fifth text with a fault", ToldBoundsTest::crowdedWithFault, it -> it.text(), -1);
        Yards.still(CHECK, "a fifth text of none", ToldBoundsTest::crowdedWithout, it -> it.text(), -1);
        home = Yards.lived();
        Check.tell(home, "work 8;");
        Check.tell(home, "work 9;");
        Check.fill(home, "work 6;");
        CHECK.due("there is a place yet", home.about(4), 3);
        home.image();
        CHECK.due("the fourth", home.text(), 3);
        Check.fill(home, "work 5;");
        CHECK.due("the fifth", home.text(), -1);
        CHECK.due("its bytes", home.about(8), 7);
        home.back();
        CHECK.due("the tape that stayed", home.text(), 3);
        home.by(3);
        CHECK.due("its work", home.plough(), 5);
    }

    private static OxenHome crowdedWithFault() {
        OxenHome home = Yards.crowded();
        Check.fill(home, "work !;");
        return home;
    }

    private static OxenHome crowdedWithout() {
        OxenHome home = Yards.crowded();
        home.end(0);
        return home;
    }

    /** What two OXEN of STRENGTH 1 plough by a TEXT. */
    private static void workBy(OxenHome home, int text, int due) {
        if (home.about(2) == 0) {
            home.farm(0, 0, 0);
            home.field(0, 0, 0, 99);
            home.ox(0, -1, 1, 1);
            home.ox(0, -1, 1, 1);
            home.yoke(0, 1, 0);
        }
        CHECK.due("by " + text, home.by(text), true);
        CHECK.due("work by " + text, home.plough(), due);
    }

    private static void promise8() {
        CHECK.quote("Of the latest text that was read: 0 its FAULT (0 without), 1 its place (NONE without).");
        OxenHome home = new OxenHome();
        home.text();
        CHECK.due("without", home.fault(0), 0);
        CHECK.due("place without", home.fault(1), -1);
        String[] texts = {"!", "work 10000;", "work (((((((((1", "work 5;work 6;", "work ear;", "work", ""};
        int[] places = {0, 5, 13, 7, 5, 4, -1};
        for (int i = 0; i < texts.length; i++) {
            Check.tell(home, texts[i]);
            CHECK.due("fault of " + texts[i], home.fault(0), i < 5 ? i + 1 : i == 5 ? 1 : 0);
            CHECK.due("place of " + texts[i], home.fault(1), places[i]);
        }
        Check.tell(home, "slip !;");
        Check.fill(home, "work ear;");
        home.feed(0, 0, 0, 0, 0);
        home.end(3);
        home.back();
        CHECK.due("not of the tape that stands there", home.fault(0), 1);
        CHECK.due("nor its place", home.fault(1), 5);
        Check.tell(home, "");
        CHECK.due("a fault goes", home.fault(0), 0);
        CHECK.due("so does its place", home.fault(1), -1);
        home = Yards.crowded();
        home.back();
        Check.fill(home, "work ear;");
        home.text();
        CHECK.due("a fifth is not read", home.fault(0), 0);
        CHECK.due("it has no place", home.fault(1), -1);
        CHECK.quote("NONE for others, and ahead of any.");
        for (int what : new int[] {-1, -2, 2, 3, 10, LOW, HIGH}) {
            refused("fault " + what, it -> it.fault(what), -1);
            CHECK.due("fault ahead of any " + what, new OxenHome().fault(what), -1);
        }
        home = new OxenHome();
        CHECK.due("fault ahead of any", home.fault(0), -1);
        CHECK.due("place ahead of any", home.fault(1), -1);
        Check.fill(home, "work !;");
        CHECK.due("fault ahead of its text", home.fault(0), -1);
        home.image();
        home.text();
        home.back();
        CHECK.due("a fault is not gone back of", home.fault(0), 1);
    }

    private static void promise9() {
        CHECK.quote("THE TEXT (NONE: none): true.");
        OxenHome home = new OxenHome();
        CHECK.due("none of none", home.by(-1), true);
        for (int text = 0; text < 4; text++) {
            Check.tell(home, "work " + (text + 3) + ";");
            CHECK.due("the latest", home.by(text), true);
            CHECK.due("the text", home.about(5), text);
            CHECK.due("again", home.by(text), true);
            CHECK.due("the text again", home.about(5), text);
        }
        for (int text = 3; text >= 0; text--) {
            workBy(home, text, text + 3);
            CHECK.due("the text", home.about(5), text);
        }
        CHECK.due("none", home.by(-1), true);
        CHECK.due("no text", home.about(5), -1);
        CHECK.due("as without", home.plough(), 2);
        CHECK.quote("False for others.");
        for (int text : new int[] {-2, 1, 2, 3, 4, LOW, HIGH}) {
            refused("by " + text + " of one", it -> bit(it.by(text)), 0);
        }
        fullRefuses("by 4 of four", it -> bit(it.by(4)), 0);
        fullRefuses("by -2 of four", it -> bit(it.by(-2)), 0);
        CHECK.due("0 of none", new OxenHome().by(0), false);
        CHECK.due("-2 of none", new OxenHome().by(-2), false);
        home = new OxenHome();
        Check.tell(home, "work !;");
        CHECK.due("one with a fault", home.by(0), false);
    }

    private static void promise18() {
        CHECK.quote("Of an OX: 0 HOME, 1 SECOND (NONE), 2 STRENGTH, 3 EAR, 4 OWNER, 5 NIGHTS, 6 where it is AT, "
            + "7 with whom it is in a YOKE (NONE).");
        OxenHome home = Yards.farmyard();
        home.sell(1, 2);
        home.drive(1, 2);
        home.night();
        home.night();
        home.yoke(1, 3, 1);
        int[][] due = {{0, 1, 3, 1, 0, 0, 0, -1}, {1, -1, 4, 2, 2, 2, 11, 3}, {2, 0, 5, 3, 2, 0, 2, -1},
            {0, 2, 6, 4, 0, 0, 11, 1}, {1, 1, 7, 5, 1, 0, 1, -1}};
        for (int ox = 0; ox < 5; ox++) {
            for (int what = 0; what < 8; what++) {
                CHECK.due("of " + ox + " " + what, home.of(ox, what), due[ox][what]);
            }
        }
        home = Yards.crowded();
        CHECK.due("at field 3", home.of(6, 6), 13);
        CHECK.due("the last with", home.of(6, 7), 5);
        CHECK.due("the last ox", home.of(7, 2), 5);
        CHECK.quote("-2 for others.");
        for (int off : new int[] {-1, 5, 6, 7, 8, LOW, HIGH}) {
            refused("of ox " + off, it -> it.of(off, 0), -2);
        }
        for (int off : new int[] {-1, 8, 9, LOW, HIGH}) {
            refused("of what " + off, it -> it.of(0, off), -2);
            refused("of what " + off + " of ox 4", it -> it.of(4, off), -2);
        }
        fullRefuses("of ox 8", it -> it.of(8, 0), -2);
        CHECK.due("of none", new OxenHome().of(0, 0), -2);
    }

    private static void promise19() {
        CHECK.quote("Whether an OX would heed a FARM's WHISTLE with a PITCH from a FIELD at HOUR, YOKED or not.");
        OxenHome home = Yards.farmyard();
        Check.rule(home, "heeds pitch=0 and farm=0 and far=2 and hour=6 and yoked=0 and ox=0 and ear=1 and own=1;");
        CHECK.due("ox 0", home.heeds(0, 0, 0, 0, false), true);
        CHECK.due("ox 1", home.heeds(1, 0, 0, 0, false), false);
        CHECK.due("farm 1", home.heeds(0, 1, 0, 0, false), false);
        CHECK.due("pitch 1", home.heeds(0, 0, 1, 0, false), false);
        CHECK.due("field 1", home.heeds(0, 0, 0, 1, false), false);
        CHECK.due("yoked", home.heeds(0, 0, 0, 0, true), false);
        home.yoke(0, 1, 1);
        CHECK.due("would, wherever it is", home.heeds(0, 0, 0, 0, false), true);
        home.plough();
        CHECK.due("at 7", home.heeds(0, 0, 0, 0, false), false);
        home = Yards.crowded();
        home.by(-1);
        CHECK.due("the highest of all", home.heeds(5, 4, 9, 3, true), true);
        CHECK.due("the highest ox", home.heeds(7, 0, 9, 3, false), true);
        CHECK.due("it would not", home.heeds(7, 4, 9, 3, false), false);
        CHECK.quote("False for others.");
        for (int off : new int[] {-1, 5, 8, LOW, HIGH}) {
            refusedHeed("ox " + off, off, 0, 0, 0);
        }
        for (int off : new int[] {-1, 3, 5, LOW, HIGH}) {
            refusedHeed("farm " + off, 0, off, 0, 0);
        }
        for (int off : new int[] {-1, 10, LOW, HIGH}) {
            refusedHeed("pitch " + off, 0, 0, off, 0);
        }
        for (int off : new int[] {-1, 2, 4, LOW, HIGH}) {
            refusedHeed("field " + off, 0, 0, 0, off);
        }
    }

    /** Even where all that is told heeds all. */
    private static void refusedHeed(String what, int ox, int farm, int pitch, int field) {
        for (boolean yoked : new boolean[] {false, true}) {
            Yards.still(CHECK, "heeds, " + what, ToldBoundsTest::allHeed,
                it -> bit(it.heeds(ox, farm, pitch, field, yoked)), 0);
        }
    }

    private static OxenHome allHeed() {
        OxenHome home = Yards.lived();
        Check.rule(home, "heeds 1=1;");
        return home;
    }

    private static void promise20() {
        CHECK.quote("A CALL more: how many there are.");
        OxenHome home = Yards.farmyard();
        for (int i = 1; i <= 8; i++) {
            CHECK.due("call " + i, home.call(i % 2 == 0 ? 0 : 23, i % 2 == 0 ? 0 : 2), i);
            CHECK.due("calls", home.about(6), i);
        }
        home = Yards.farmyard();
        CHECK.due("one", home.call(7, 0), 1);
        CHECK.due("the same once more", home.call(7, 0), 2);
        CHECK.quote("NONE for others, or if there are 8.");
        for (int off : new int[] {-1, 24, LOW, HIGH}) {
            refused("call of hour " + off, it -> it.call(off, 0), -1);
        }
        for (int off : new int[] {-1, 3, 5, LOW, HIGH}) {
            refused("call of farm " + off, it -> it.call(7, off), -1);
        }
        fullRefuses("a ninth call", it -> it.call(7, 0), -1);
        fullRefuses("a ninth call of others", it -> it.call(24, 0), -1);
        CHECK.due("without a farm", new OxenHome().call(7, 0), -1);
    }

    private static void promise21() {
        CHECK.quote("No CALLS: how many there were.");
        OxenHome home = Yards.farmyard();
        CHECK.due("of none", home.hush(), 0);
        for (int calls = 1; calls <= 8; calls++) {
            for (int i = 1; i <= calls; i++) {
                CHECK.due("call", home.call(7, 0), i);
            }
            CHECK.due("stay till the call", home.stay(0, 3, 0, 24, false), 1);
            CHECK.due("hush of " + calls, home.hush(), calls);
            CHECK.due("calls", home.about(6), 0);
            CHECK.due("stay", home.stay(0, 3, 0, 24, false), 24);
        }
        CHECK.due("again", home.hush(), 0);
        CHECK.due("no step", home.about(7), 0);
    }

    private static void promise30() {
        CHECK.quote("0 FARMS, 1 FIELDS, 2 OXEN, 3 HOUR, 4 TEXTS, 5 THE TEXT (NONE), 6 CALLS, "
            + "7 STEPS that can be taken back, 8 bytes of the tape, 10 + farm: its PITCH, "
            + "20 + field: its FURROWS.");
        OxenHome home = Yards.lived();
        int[] due = {3, 2, 5, 7, 1, 0, 2, 6, 7};
        for (int what = 0; what < due.length; what++) {
            CHECK.due("about " + what, home.about(what), due[what]);
        }
        int[] pitches = {2, 4, 6};
        for (int farm = 0; farm < 3; farm++) {
            CHECK.due("pitch of " + farm, home.about(10 + farm), pitches[farm]);
        }
        CHECK.due("furrows of 0", home.about(20), 24);
        CHECK.due("furrows of 1", home.about(21), 50);
        home = Yards.crowded();
        int[] full = {5, 4, 8, 7, 4, 3, 8, 3, 300};
        for (int what = 0; what < full.length; what++) {
            CHECK.due("full about " + what, home.about(what), full[what]);
        }
        CHECK.due("pitch of 4", home.about(14), 6);
        CHECK.due("furrows of 3", home.about(23), 4);
        CHECK.quote("-2 for others.");
        for (int what : new int[] {-1, -2, -10, -20, 9, 13, 14, 15, 19, 22, 23, 24, 30, LOW, HIGH, LOW + 9, HIGH - 9}) {
            refused("about " + what, it -> it.about(what), -2);
        }
        for (int what : new int[] {-1, 9, 15, 19, 24, 25}) {
            fullRefuses("full about " + what, it -> it.about(what), -2);
        }
    }
}
