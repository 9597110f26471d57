import java.util.ArrayList;
import java.util.List;
import java.util.function.Supplier;
import java.util.function.ToLongFunction;

/** Yards that the tests begin with, and whether a call leaves all as it is. */
final class Yards {
    private Yards() {
    }

    /** Three farms, two fields, five oxen. */
    static OxenHome farmyard() {
        OxenHome home = new OxenHome();
        home.farm(0, 0, 2);
        home.farm(5, 5, 4);
        home.farm(9, 0, 6);
        home.field(1, 1, 3, 30);
        home.field(6, 6, 7, 50);
        home.ox(0, 1, 3, 1);
        home.ox(1, -1, 4, 2);
        home.ox(2, 0, 5, 3);
        home.ox(0, 2, 6, 4);
        home.ox(1, 1, 7, 5);
        return home;
    }

    /** A farmyard in which there is something of all that can be told or done. */
    static OxenHome lived() {
        OxenHome home = farmyard();
        Check.rule(home, "work strength-1;slip 1;");
        Check.tell(home, "work;");
        home.call(9, 1);
        home.yoke(0, 1, 0);
        home.plough();
        home.image();
        home.sell(2, 1);
        home.drive(3, 2);
        home.loose(1);
        home.yoke(2, 4, 1);
        home.call(12, 0);
        Check.fill(home, "work 7;");
        return home;
    }

    /** As many as there may be of all that can be told, and 300 bytes on the tape. */
    static OxenHome crowded() {
        OxenHome home = farmyard();
        home.farm(1, 2, 3);
        home.farm(4, 5, 6);
        home.field(7, 8, 9, 10);
        home.field(11, 12, 1, 14);
        home.ox(4, 3, 1, 0);
        home.ox(3, 4, 9, 9);
        home.ox(0, -1, 5, 5);
        for (int i = 1; i <= 4; i++) {
            Check.rule(home, i < 4 ? "work 5;slip 2;" : "calls 9-farm;");
        }
        for (int i = 0; i < 8; i++) {
            home.call(8 + i, i % 5);
        }
        home.yoke(5, 6, 3);
        home.image();
        home.yoke(2, 4, 1);
        home.plough();
        Check.fill(home, " ".repeat(300));
        return home;
    }

    /** All that can be asked of what is there, and of what is there behind an undo and a back. */
    private static List<Long> answers(OxenHome home) {
        List<Long> answers = new ArrayList<>();
        tellAll(home, answers);
        answers.add((long) home.stay(0, 1, 0, 24, false));
        answers.add((long) home.stay(2, 4, 1, 24, true));
        answers.add((long) home.plan(3, -1));
        answers.add((long) home.longest(1, 24));
        answers.add(home.dark(0, 8, 7, 3, 1, 0));
        answers.add((long) home.apart(1, 0, -1));
        answers.add((long) home.thunder(77, 9));
        answers.add((long) home.undo());
        tellAll(home, answers);
        answers.add((long) home.back());
        tellAll(home, answers);
        answers.add((long) home.text());
        answers.add((long) home.fault(0));
        answers.add(home.by(home.about(4) - 1) ? 1L : 0L);
        answers.add((long) home.plough());
        return answers;
    }

    private static void tellAll(OxenHome home, List<Long> answers) {
        for (int what = 0; what <= 23; what++) {
            answers.add((long) home.about(what));
        }
        for (int ox = 0; ox < home.about(2); ox++) {
            for (int what = 0; what <= 7; what++) {
                answers.add((long) home.of(ox, what));
            }
        }
        answers.add((long) home.fault(0));
        answers.add((long) home.fault(1));
    }

    /** That a call answers as is due and that a twin without the call goes on in the same way. */
    static void still(Check check, String what, Supplier<OxenHome> yard, ToLongFunction<OxenHome> call, long due) {
        OxenHome home = yard.get();
        OxenHome twin = yard.get();
        check.due(what, call.applyAsLong(home), due);
        check.due(what + " leaves all as it is", answers(home).equals(answers(twin)), true);
    }

    /** That a call which a lived yard refuses changes nothing there. */
    static void refused(Check check, String what, ToLongFunction<OxenHome> call, long due) {
        still(check, what, Yards::lived, call, due);
    }
}
