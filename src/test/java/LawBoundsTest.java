import java.io.IOException;

/** Part II, the TEXTS, sentence by sentence, at the bounds that each names. */
public final class LawBoundsTest {
    private static final String EIGHT_OPEN = "((((((((";
    private static final String EIGHT_CLOSE = "))))))))";
    private static final Check CHECK = new Check("LawBoundsTest");

    public static void main(String[] args) throws IOException {
        Document document = new Document();
        texts();
        tokens();
        letters();
        numbers();
        signs();
        clauses();
        asks();
        sums();
        names();
        fromTheLeft();
        division();
        million();
        bothSides();
        faultsFirst();
        faultPlaces();
        faultLeast();
        misplaced();
        tooGreat();
        tooDeep();
        clauseAgain();
        foreignName();
        theText();
        document.covered(CHECK, "TEXTS 0 .. 3: of up", "==== III.");
        CHECK.close();
    }

    private static void fine(String text) {
        OxenHome home = new OxenHome();
        CHECK.due("text of " + text, Check.tell(home, text), 0);
        CHECK.due("fault of " + text, home.fault(0), 0);
        CHECK.due("place of " + text, home.fault(1), -1);
    }

    private static void bad(String text, int fault, int place) {
        OxenHome home = new OxenHome();
        CHECK.due("text of " + text, Check.tell(home, text), -1);
        CHECK.due("fault of " + text, home.fault(0), fault);
        CHECK.due("place of " + text, home.fault(1), place);
        CHECK.due("texts behind " + text, home.about(4), 0);
    }

    /** Whether ox 0 (EAR 8, STRENGTH 4) of farm 0, far 4, heeds its PITCH 3 by these words. */
    private static void so(String either, boolean due) {
        OxenHome home = new OxenHome();
        home.farm(2, 3, 5);
        home.field(4, 1, 6, 60);
        home.ox(0, -1, 4, 8);
        Check.rule(home, "heeds " + either + ";");
        CHECK.due(either, home.heeds(0, 0, 3, 0, true), due);
    }

    /** A number beyond 9999 is told in thousands. */
    private static void same(String sum, int due) {
        String told = Math.abs(due) > 9999 ? due / 1000 + "*1000" : "" + due;
        so(sum + "=" + told, true);
        so(sum + "#" + told, false);
    }

    private static void texts() {
        CHECK.quote("TEXTS 0 .. 3: of up to 300 bytes.");
        OxenHome home = new OxenHome();
        for (int text = 0; text < 4; text++) {
            CHECK.due("by it ahead of it", home.by(text), false);
            CHECK.due("text", Check.tell(home, "work " + text + ";"), text);
            CHECK.due("by it", home.by(text), true);
        }
        CHECK.due("text 4", Check.tell(home, "work 4;"), -1);
        fine("");
        fine(" ");
        fine("work 1;" + " ".repeat(293));
        fine("work 11" + "+1".repeat(146) + ";");
        bad("work 1" + "+1".repeat(146) + ";+", 1, 299);
        bad("work 1" + "+1".repeat(147), 1, 300);
        fine("heeds " + "not 1=1 or ".repeat(26) + "1=1;");
        fine("work 1;" + " ".repeat(286) + "slip 1;");
        fourLongTexts();
    }

    /** Two full clauses each, of which every one comes to its own number. */
    private static void fourLongTexts() {
        OxenHome home = corners();
        home.yoke(0, 1, 0);
        for (int text = 0; text < 4; text++) {
            String first = "calls " + "1+".repeat(60) + "0-60;heeds pitch";
            String then = "+1".repeat(60) + ">60+" + text + ";work " + text + ";";
            CHECK.due("long text", Check.tell(home, first + then), text);
        }
        for (int text = 0; text < 4; text++) {
            home.by(text);
            CHECK.due("work by " + text, home.plough(), text);
            CHECK.due("pitch " + text, home.heeds(0, 0, text, 0, false), false);
            CHECK.due("pitch above " + text, home.heeds(0, 0, text + 1, 0, false), true);
            CHECK.due("none calls", home.dark(0, 0, 0, 0, 0, 0), -1);
        }
        for (int text = 0; text < 4; text++) {
            home = corners();
            home.yoke(0, 1, 0);
            for (int told = 0; told < 4; told++) {
                Check.tell(home, "work " + (told == text ? "1+".repeat(143) + "7-136;" : "1+".repeat(146) + "1;"));
            }
            home.by(text);
            CHECK.due("all of the text " + text, home.plough(), 14);
        }
    }

    private static void tokens() {
        CHECK.quote("TOKENS, blanks (32, 10) aside:");
        fine("\n\n  work \n 1\n\n;  \n");
        for (int sign = 0; sign < 256; sign++) {
            String text = "work" + (char) sign + "1;";
            boolean letter = sign >= 'a' && sign <= 'z' || sign >= 'A' && sign <= 'Z';
            boolean digit = sign >= '0' && sign <= '9';
            if (sign == 32 || sign == 10 || sign == '-' || digit) {
                fine(text);
            } else if (sign == '(') {
                bad(text, 1, 6);
            } else {
                bad(text, 1, letter ? 0 : 4);
            }
        }
    }

    private static void letters() {
        CHECK.quote("letters a .. z, A .. Z one behind the other (one TOKEN),");
        fine("work1;slip1;calls1;heeds1<2;second1<2;");
        bad("workslip 1;", 1, 0);
        bad("wor", 1, 0);
        bad("work ho ur;", 1, 5);
        bad("work houra;", 1, 5);
        bad("work hourZ;", 1, 5);
        bad("work hourA;", 1, 5);
        bad("work hourz;", 1, 5);
        bad("work hour@;", 1, 9);
        bad("work hour[;", 1, 9);
        bad("work hour`;", 1, 9);
        bad("work hour{;", 1, 9);
        bad("heeds 1=1 or1=1", 1, 15);
        fine("heeds 1=1or 1=1and 1=1and not1=1;");
        bad("heeds 1=1 ornot 1=1;", 1, 10);
        bad("heeds notnot 1=1;", 1, 6);
        bad("work earhour;", 1, 5);
        bad("WORK 1;", 1, 0);
        bad("work Hour;", 1, 5);
        bad("work a;", 1, 5);
        bad("work z;", 1, 5);
        bad("work A;", 1, 5);
        bad("work Z;", 1, 5);
        bad("work " + "a".repeat(295), 1, 5);
    }

    private static void numbers() {
        CHECK.quote("digits likewise (NUMBERS, 0 .. 9999),");
        fine("work 0;");
        fine("work 9999;");
        fine("work 0000000000000000000000000009999;");
        bad("work 10000;", 2, 5);
        bad("work 00010000;", 2, 5);
        bad("work 1 0;", 1, 7);
        bad("work 1\n0;", 1, 7);
        bad("work 0x0;", 1, 6);
        bad("work 1.0;", 1, 6);
        bad("work /1;", 1, 5);
        bad("work :1;", 1, 5);
        same("0", 0);
        same("00012", 12);
        same("9999-9998", 1);
        same("1234", 1234);
        same("5678", 5678);
        same("9090", 9090);
    }

    private static void signs() {
        CHECK.quote("<= >= < > = # + - * / ( ) ; (the longest).");
        String[] comparisons = {"<=", ">=", "<", ">", "=", "#"};
        boolean[][] due = {{true, true, false}, {false, true, true}, {true, false, false}, {false, false, true},
            {false, true, false}, {true, false, true}};
        for (int i = 0; i < 6; i++) {
            for (int left = 1; left <= 3; left++) {
                so(left + comparisons[i] + "2", due[i][left - 1]);
                so(left + " " + comparisons[i] + "\n2", due[i][left - 1]);
            }
        }
        bad("heeds 1< =2;", 1, 9);
        bad("heeds 1> =2;", 1, 9);
        bad("heeds 1<==2;", 1, 9);
        bad("heeds 1=<2;", 1, 8);
        bad("heeds 1=>2;", 1, 8);
        bad("heeds 1<>2;", 1, 8);
        bad("heeds 1><2;", 1, 8);
        bad("heeds 1<<2;", 1, 8);
        bad("heeds 1#=2;", 1, 8);
        bad("heeds 1==2;", 1, 8);
        bad("heeds 1!=2;", 1, 7);
        bad("heeds 1<", 1, 8);
        bad("heeds 1<=", 1, 9);
        bad("heeds 1>", 1, 8);
        bad("heeds 1>=", 1, 9);
        so("3+2=5", true);
        so("3-2=1", true);
        so("3*2=6", true);
        so("7/2=3", true);
        so("2*(3+4)=14", true);
    }

    private static void clauses() {
        CHECK.quote("{CLAUSE}, each once at most: heeds EITHER ; or second EITHER ; or slip SUM ; or calls SUM ; "
            + "or work SUM ;.");
        fine("");
        String[] all = {"heeds 1<2;", "second 1<2;", "slip 1;", "calls 1;", "work 1;"};
        for (int first = 0; first < 5; first++) {
            fine(all[first]);
            for (int then = 0; then < 5; then++) {
                if (first == then) {
                    bad(all[first] + all[then], 4, all[first].length());
                } else {
                    fine(all[first] + all[then]);
                }
            }
        }
        fine("heeds 1<2;second 1<2;slip 1;calls 1;work 1;");
        fine("work 1;calls 1;slip 1;second 1<2;heeds 1<2;");
        bad("heeds 1<2;second 1<2;slip 1;calls 1;work 1;heeds 1<2;", 4, 43);
        bad("heeds 1<2;second 1<2;slip 1;calls 1;work 1;hour", 1, 43);
        bad("heeds 1<2;second 1<2;slip 1;calls 1;work 1;;", 1, 43);
        bad("heeds 1;", 1, 7);
        bad("second 1;", 1, 8);
        bad("slip 1<2;", 1, 6);
        bad("calls 1<2;", 1, 7);
        bad("work 1<2;", 1, 6);
        bad("slip not 1<2;", 1, 5);
        bad("heeds;", 1, 5);
        bad("second;", 1, 6);
        bad("slip;", 1, 4);
        bad("calls;", 1, 5);
        bad("work;", 1, 4);
        bad("heeds 1<2", 1, 9);
        bad("work 1 slip 1;", 1, 7);
        bad(";", 1, 0);
    }

    private static void asks() {
        CHECK.quote("EITHER: BOTH {or BOTH}. BOTH: ASK {and ASK}. ASK: not ASK, or SUM one of < <= > >= = # "
            + "(unlike) SUM.");
        String yes = "1=1";
        String no = "1=2";
        for (int bits = 0; bits < 8; bits++) {
            String a = (bits & 1) != 0 ? yes : no;
            String b = (bits & 2) != 0 ? yes : no;
            String c = (bits & 4) != 0 ? yes : no;
            boolean p = (bits & 1) != 0;
            boolean q = (bits & 2) != 0;
            boolean r = (bits & 4) != 0;
            so(a + " or " + b + " and " + c, p || q && r);
            so(a + " and " + b + " or " + c, p && q || r);
            so(a + " or " + b + " or " + c, p || q || r);
            so(a + " and " + b + " and " + c, p && q && r);
            so("not " + a + " or " + b + " and not " + c, !p || q && !r);
            so("not not " + a + " and not " + b + " or not not not " + c, p && !q || !r);
        }
        comparisonsJoined();
        bad("heeds (1=1) or 1=1;", 1, 8);
        bad("heeds 1=1 or or 1=1;", 1, 13);
        bad("heeds 1=1 and or 1=1;", 1, 14);
        bad("heeds 1=1 or;", 1, 12);
        bad("heeds 1=1 and;", 1, 13);
        bad("heeds not;", 1, 9);
        bad("heeds and 1=1;", 1, 6);
        bad("heeds 1=1=1;", 1, 9);
        bad("heeds 1=not 1;", 1, 8);
        bad("heeds 1=1 1=1;", 1, 10);
        bad("heeds 1=1 not 1=1;", 1, 10);
        bad("heeds 1 or 1=1;", 1, 8);
        bad("heeds 1 and 1=1;", 1, 8);
        bad("heeds =1;", 1, 6);
        bad("heeds 1=;", 1, 8);
    }

    private static void comparisonsJoined() {
        String[] hold = {"1<2", "1<=2", "2<=2", "2>1", "2>=1", "2>=2", "2=2", "1#2", "2#1"};
        String[] fail = {"2<1", "2<2", "2<=1", "1>2", "2>2", "1>=2", "1=2", "2=1", "2#2"};
        for (int i = 0; i < hold.length; i++) {
            so(hold[i], true);
            so(fail[i], false);
            so("not " + hold[i], false);
            so("not " + fail[i], true);
            so("not not " + hold[i], true);
            for (int j = 0; j < hold.length; j++) {
                so(hold[i] + " and " + hold[j], true);
                so(hold[i] + " and " + fail[j], false);
                so(fail[i] + " or " + hold[j], true);
                so(fail[i] + " or " + fail[j], false);
                so("not " + fail[i] + " and not " + fail[j], true);
                so("not " + hold[i] + " or not " + hold[j], false);
            }
        }
    }

    private static void sums() {
        CHECK.quote("SUM: PRODUCT {+ or - PRODUCT}. PRODUCT: ONE {* or / ONE}. ONE: NUMBER, NAME, ( SUM ), - ONE.");
        same("7", 7);
        same("ear", 8);
        same("(ear)", 8);
        same("-ear", -8);
        same("--ear", 8);
        same("-(-ear)", 8);
        same("(-(ear))", -8);
        same("1+2*3", 7);
        same("(1+2)*3", 9);
        same("2*3+1", 7);
        same("2*(3+1)", 8);
        same("9-4/2", 7);
        same("(9-4)/2", 2);
        same("-2*3", -6);
        same("-2+3", 1);
        same("-(2+3)", -5);
        same("3*-2", -6);
        same("3--2", 5);
        same("3+-2", 1);
        same("6/-2", -3);
        same("- - 5", 5);
        bad("work +1;", 1, 5);
        bad("work *1;", 1, 5);
        bad("work 1-;", 1, 7);
        bad("work 1/;", 1, 7);
        bad("work 1+*2;", 1, 7);
        bad("work -;", 1, 6);
        bad("work (;", 1, 6);
        bad("work ();", 1, 6);
        bad("work );", 1, 5);
        bad("work (1;", 1, 7);
        bad("work 1);", 1, 6);
        bad("work ((1);", 1, 9);
        bad("work (1)(2);", 1, 8);
        bad("work 2(1);", 1, 6);
        bad("work 2 hour;", 1, 7);
        bad("work hour 2;", 1, 10);
    }

    private static void names() {
        CHECK.quote("NAMES: hour in all; pitch, farm (which whistles; -1: thunder) in all but work; "
            + "ear, own (1, 0), far (x and y apart from where it stands; thunder: 0), yoked (1, 0), "
            + "ox (its number) in heeds, second, slip; strength in these (its own) and in work (both together); "
            + "weaker (the lower STRENGTH of both), soil in work.");
        String[] names = {"hour", "pitch", "farm", "ear", "own", "far", "yoked", "ox", "strength", "weaker", "soil"};
        for (int i = 0; i < names.length; i++) {
            named("heeds 1<", names[i], i <= 8);
            named("second 1<", names[i], i <= 8);
            named("slip ", names[i], i <= 8);
            named("calls ", names[i], i <= 2);
            named("work ", names[i], i == 0 || i >= 8);
        }
        namesHeard();
        namesOfThunder();
        namesOfSlip();
        namesOfCalls();
        namesOfWork();
    }

    private static void named(String ahead, String name, boolean mine) {
        if (mine) {
            fine(ahead + name + ";");
        } else {
            bad(ahead + name + ";", 5, ahead.length());
        }
    }

    /** Two farms at far corners, a field, and two OXEN of unlike numbers. */
    private static OxenHome corners() {
        OxenHome home = new OxenHome();
        home.farm(0, 0, 4);
        home.farm(19, 19, 9);
        home.field(0, 19, 8, 99);
        home.field(19, 19, 1, 99);
        home.ox(0, 1, 2, 3);
        home.ox(1, -1, 9, 0);
        return home;
    }

    private static void heard(int ox, int farm, int pitch, int field, boolean yoked, String ask) {
        OxenHome home = corners();
        Check.rule(home, "heeds " + ask + ";");
        CHECK.due(ask, home.heeds(ox, farm, pitch, field, yoked), true);
        home = corners();
        Check.rule(home, "heeds not " + ask + ";");
        CHECK.due("not " + ask, home.heeds(ox, farm, pitch, field, yoked), false);
    }

    private static void namesHeard() {
        heard(0, 0, 0, 0, false, "hour=6");
        heard(0, 0, 0, 0, false, "pitch=0");
        heard(0, 0, 9, 0, false, "pitch=9");
        heard(0, 0, 0, 0, false, "farm=0");
        heard(0, 1, 0, 0, false, "farm=1");
        heard(0, 0, 0, 0, false, "ear=3");
        heard(1, 0, 0, 0, false, "ear=0");
        heard(0, 0, 0, 0, false, "own=1");
        heard(0, 1, 0, 0, false, "own=1");
        heard(1, 0, 0, 0, false, "own=0");
        heard(1, 1, 0, 0, false, "own=1");
        heard(0, 0, 0, 0, false, "far=19");
        heard(0, 1, 0, 0, false, "far=19");
        heard(0, 0, 0, 1, false, "far=38");
        heard(0, 1, 0, 1, false, "far=0");
        heard(0, 0, 0, 0, true, "yoked=1");
        heard(0, 0, 0, 0, false, "yoked=0");
        heard(0, 0, 0, 0, false, "ox=0");
        heard(1, 0, 0, 0, false, "ox=1");
        heard(0, 0, 0, 0, false, "strength=2");
        heard(1, 0, 0, 0, false, "strength=9");
    }

    private static void namesOfThunder() {
        String[] asks = {"farm=-1", "far=0", "own=0", "pitch=2", "hour=6", "yoked=1", "ox=0", "ear=3", "strength=2"};
        for (String ask : asks) {
            OxenHome home = corners();
            home.yoke(0, 1, 0);
            Check.rule(home, "heeds " + ask + ";");
            CHECK.due("thunder " + ask, home.thunder(0, 1) > 0, true);
            Check.rule(home, "heeds not " + ask + ";");
            boolean ofOne = ask.startsWith("ox") || ask.startsWith("ear") || ask.startsWith("strength");
            CHECK.due("thunder not " + ask, home.thunder(0, 1), ofOne ? 1 : 0);
        }
    }

    /** Ox 1 of the set heeds nothing and went nowhere: 10 - slip by farm 0, and by farm 1. */
    private static void slipIs(String sum, int ofFarm0, int ofFarm1) {
        OxenHome home = corners();
        Check.rule(home, "heeds 1=2;slip " + sum + ";calls 1-(pitch+8)/9;");
        CHECK.due("slip " + sum + " upper", home.dark(0, 7, 2, 0, 0, 0) * (20 - ofFarm0 - ofFarm1),
            home.dark(0, 7, 2, 0, 0, 1) * (10 - ofFarm0));
    }

    private static void namesOfSlip() {
        slipIs("hour", 7, 7);
        slipIs("pitch", 0, 0);
        slipIs("farm*3", 0, 3);
        slipIs("ear+5", 5, 5);
        slipIs("own*4", 0, 4);
        slipIs("far/19", 1, 1);
        slipIs("far/19+farm", 1, 2);
        slipIs("yoked+2*farm", 0, 2);
        slipIs("ox*2+farm", 2, 3);
        slipIs("strength-farm", 9, 8);
    }

    private static void namesOfCalls() {
        OxenHome home = corners();
        Check.rule(home, "calls hour;");
        CHECK.due("calls 0 at 0", home.dark(0, 0, 0, 0, 0, 0), -1);
        CHECK.due("calls 1 at 1", home.dark(0, 1, 0, 0, 0, 1), 2);
        Check.rule(home, "calls farm+1;");
        CHECK.due("calls by farm", home.dark(0, 1, 0, 0, 0, 1), 3);
        CHECK.due("calls by farm 1", home.dark(0, 1, 0, 0, 1, 0), 2);
        Check.rule(home, "calls pitch*(1-farm)+farm;");
        CHECK.due("calls by pitch", home.dark(0, 1, 0, 0, 0, 0), 9);
        CHECK.due("calls by pitch", home.dark(0, 1, 0, 0, 0, 1), 11);
    }

    private static void namesOfWork() {
        String[] sums = {"hour", "strength", "weaker", "soil"};
        int[] due = {6, 11, 2, 8};
        for (int i = 0; i < 4; i++) {
            OxenHome home = corners();
            Check.rule(home, "work " + sums[i] + ";");
            home.yoke(1, 0, 0);
            CHECK.due("work " + sums[i], home.plough(), due[i]);
            home.undo();
            CHECK.due("done " + sums[i], home.stay(0, 1, 0, 1, true), due[i]);
            CHECK.due("done " + sums[i], home.stay(1, 0, 0, 1, true), due[i]);
        }
    }

    private static void fromTheLeft() {
        CHECK.quote("From the left;");
        same("9-3-2", 4);
        same("9-(3-2)", 8);
        same("9-3+2", 8);
        same("100/5/2", 10);
        same("100/(5/2)", 50);
        same("7/2*2", 6);
        same("2*7/2", 7);
        same("1-2-3-4", -8);
        same("9999*101-9999*100", 100);
    }

    private static void division() {
        CHECK.quote("/ cuts towards 0, by 0 it is 0;");
        same("7/2", 3);
        same("-7/2", -3);
        same("7/-2", -3);
        same("-7/-2", 3);
        same("1/2", 0);
        same("-1/2", 0);
        same("0-1/2", 0);
        same("9999/9999", 1);
        same("9998/9999", 0);
        same("-9998/9999", 0);
        same("0/5", 0);
        same("5/0", 0);
        same("-5/0", 0);
        same("0/0", 0);
        same("5/(3-3)", 0);
        same("5/0+1", 1);
        same("5/(1/2)", 0);
        same("5/farm", 0);
    }

    private static void million() {
        CHECK.quote("what is above 1000000 (below the same less) is that, at each step.");
        so("1000*999+999<1000*1000", true);
        same("1000*1000", 1000000);
        same("1000*1000+1", 1000000);
        so("1000*1000+1-1=1000*999+999", true);
        same("1001*1000", 1000000);
        same("9999*9999/1000", 1000);
        same("9999*9999*9999/1000", 1000);
        same("-1000*1000", -1000000);
        same("-1000*1000-1", -1000000);
        so("-1000*1000-1+1=-999*1000-999", true);
        same("-1001*1000", -1000000);
        same("9999*-9999/1000", -1000);
        same("1000*1000*-1000*1000", -1000000);
        same("1000*1000+1000*1000-1000*1000", 0);
        same("-1000*1000-1000*1000+1000*1000", 0);
        same("-(1001*1000)", -1000000);
        so("9999*9999=1000*1000", true);
        so("9999*9999>1000*1000", false);
        so("-9999*9999<-1000*1000", false);
        same("9999*9999*9999*9999*9999*9999*0", 0);
    }

    private static void bothSides() {
        CHECK.quote("or and and look at both sides always.");
        so("1=1 or 5/0=0", true);
        so("1=1 or 5/0=1", true);
        so("5/0=1 or 1=1", true);
        so("1=2 and 5/0=0", false);
        so("5/0=0 and 1=2", false);
        so("1=1 or 1=1", true);
        so("1=1 and 1=1", true);
        so("1=2 or 1=2", false);
        so("1=2 and 1=2", false);
        bad("heeds 1=1 or weaker=0;", 5, 13);
        bad("heeds 1=2 and 10000=0;", 2, 14);
    }

    private static void faultsFirst() {
        CHECK.quote("FAULTS, the first as TOKENS are come to,");
        bad("work pitch+10000;", 5, 5);
        bad("work 10000+pitch;", 2, 5);
        bad("work " + EIGHT_OPEN + "(10000", 3, 13);
        bad("work " + EIGHT_OPEN + "10000", 2, 13);
        bad("work 1;work pitch;!", 4, 7);
        bad("work pitch;work 1;!", 5, 5);
        bad("work !;work 1;work 10000;", 1, 5);
        bad("work 10000;!", 2, 5);
        bad("work 10000", 2, 5);
        bad("heeds 1<weaker or 2;", 5, 8);
        bad("heeds 1 or weaker<2;", 1, 8);
    }

    private static void faultPlaces() {
        CHECK.quote("at the TOKEN's first byte (of the end at the length),");
        bad("work  \n weaken;", 1, 8);
        bad("work  \n 12345;", 2, 8);
        bad("heeds 1 \n<\n = 2;", 1, 12);
        bad("heeds 1<=\n<=2;", 1, 10);
        bad("work", 1, 4);
        bad("work ", 1, 5);
        bad("work \n\n", 1, 7);
        bad("work 1", 1, 6);
        bad("work 1 ", 1, 7);
        bad("w", 1, 0);
        bad(" w", 1, 1);
        bad("work 1" + " ".repeat(294), 1, 300);
        bad(" ".repeat(299) + "1", 1, 299);
        bad(" ".repeat(296) + "work", 1, 300);
        cut("work 1; work 2;", 4, 4);
        cut("work 1;", 3, 0);
        cut("work 12;", 6, 6);
        cut("work 10000;", 9, 9);
        cut("heeds 1<=2;", 8, 8);
        cut("heeds 1>=2;", 8, 8);
        cut("work 1  ;", 7, 7);
        cut("work hour;", 7, 5);
        cut("work hour;", 8, 5);
        cut("work hour;", 9, 9);
    }

    /** What stood on the tape behind its end is no part of it. */
    private static void cut(String text, int bytes, int place) {
        OxenHome home = new OxenHome();
        Check.fill(home, text);
        home.end(bytes);
        CHECK.due(bytes + " of " + text, home.text(), -1);
        CHECK.due("fault of " + bytes + " of " + text, home.fault(0), 1);
        CHECK.due("place of " + bytes + " of " + text, home.fault(1), place);
    }

    private static void faultLeast() {
        CHECK.quote("of one the least:");
        bad("10000", 1, 0);
        bad("work 1 10000;", 1, 7);
        bad("work 1 pitch;", 1, 7);
        bad("work 1;pitch", 1, 7);
        bad("work 1 work 1;", 1, 7);
        bad("work work 1;", 1, 5);
        bad("work 1;slip work 1;", 1, 12);
        bad("work " + EIGHT_OPEN + "1(", 1, 14);
        bad("heeds " + "not ".repeat(8) + "1<not 1;", 1, 40);
        bad("heeds " + "not ".repeat(8) + "1 not", 1, 40);
        bad("work " + EIGHT_OPEN + "1 pitch", 1, 15);
        bad("slip " + EIGHT_OPEN + ")", 1, 13);
        bad("heeds 1<2;heeds", 4, 10);
    }

    private static void misplaced() {
        CHECK.quote("1 it can't stand there, or is none.");
        String[] words = {"hour", "soil", "heeds", "second", "slip", "calls", "work", "or", "and", "not", "1", "(", ")",
            "-", "+", "*", "/", "<", "<=", ">", ">=", "=", "#", ";", "!", "what"};
        for (String word : words) {
            boolean clause = "heeds second slip calls work".contains(word) && word.length() > 2;
            if (!clause) {
                bad(word, 1, 0);
                bad("slip 1;" + word + " 1;", 1, 7);
            }
            boolean one = word.equals("hour") || word.equals("soil") || word.equals("1");
            boolean opens = word.equals("(") || word.equals("-");
            bad("work " + word, 1, one || opens ? 5 + word.length() : 5);
            boolean behind = ";+-*/".contains(word);
            if (!behind) {
                bad("work 1 " + word, 1, 7);
                bad("work hour " + word, 1, 10);
                bad("work (1) " + word, 1, 9);
            }
            boolean compares = "< <= > >= = #".contains(word);
            if (!compares && !behind) {
                bad("heeds 1 " + word, 1, 8);
            }
            if (!behind && !word.equals("or") && !word.equals("and")) {
                bad("heeds 1<2 " + word, 1, 10);
            }
        }
        for (char none : "!\"$%&',.:?@[\\]^_`{|}~\t\r\0\u007f\u0080\u00a0\u00ff".toCharArray()) {
            bad("" + none, 1, 0);
            bad("work " + none, 1, 5);
            bad("work 1" + none, 1, 6);
            bad("work 1;" + none, 1, 7);
        }
    }

    private static void tooGreat() {
        CHECK.quote("2 a NUMBER above 9999.");
        fine("work 9998;");
        fine("work 9999;");
        bad("work 10000;", 2, 5);
        bad("work 10001;", 2, 5);
        bad("work 99990;", 2, 5);
        bad("work 65536;", 2, 5);
        bad("work 2147483647;", 2, 5);
        bad("work 2147483648;", 2, 5);
        bad("work 4294967295;", 2, 5);
        bad("work 4294967296;", 2, 5);
        bad("work 9223372036854775808;", 2, 5);
        bad("work 18446744073709551617;", 2, 5);
        bad("work " + "9".repeat(294) + ";", 2, 5);
        bad("work 1" + "0".repeat(293) + ";", 2, 5);
        fine("work " + "0".repeat(290) + "9999;");
        bad("work 1+(2*-10000);", 2, 11);
        bad("heeds 10000<1;", 2, 6);
        bad("heeds 1<10000;", 2, 8);
        bad("second not 10000<1;", 2, 11);
        bad("slip 10000;", 2, 5);
        bad("calls 10000;", 2, 6);
    }

    private static void tooDeep() {
        CHECK.quote("3 the 9th of ( not and - (of one ONE) that are open around one another (at it).");
        fine("work " + EIGHT_OPEN + "1" + EIGHT_CLOSE + ";");
        bad("work " + EIGHT_OPEN + "(1)" + EIGHT_CLOSE + ";", 3, 13);
        fine("work " + EIGHT_OPEN + "1" + EIGHT_CLOSE + "+" + EIGHT_OPEN + "2" + EIGHT_CLOSE + ";");
        bad("work " + EIGHT_OPEN + "-1" + EIGHT_CLOSE + ";", 3, 13);
        bad("work --------(1);", 3, 13);
        fine("work --------1;");
        bad("work ---------1;", 3, 13);
        fine("work --------1---------1;");
        bad("work --------1----------1;", 3, 23);
        fine("work 1-1-1-1-1-1-1-1-1-1-1-1;");
        fine("work -1-1-1-1-1-1-1-1-1-1-1-1;");
        fine("work -1*-1*-1*-1*-1*-1*-1*-1*-1*-1;");
        fine("work (1)+(1)+(1)+(1)+(1)+(1)+(1)+(1)+(1)+(1);");
        fine("work -(-(-(-(1))));");
        bad("work -(-(-(-(-1))));", 3, 13);
        fine("work (((((((-1)))))))-(1);");
        fine("work " + EIGHT_OPEN + "1" + EIGHT_CLOSE + "--1;");
        fine("work (((((((-1-1)))))))*-1;");
        fine("work (((((((-1)-1*-1))))))*-1;");
        fine("heeds " + "not ".repeat(8) + "1<2;");
        bad("heeds " + "not ".repeat(9) + "1<2;", 3, 38);
        bad("heeds " + "not ".repeat(8) + "(1)<2;", 3, 38);
        bad("heeds " + "not ".repeat(8) + "-1<2;", 3, 38);
        bad("heeds " + "not ".repeat(8) + "1<(2);", 3, 40);
        bad("heeds " + "not ".repeat(8) + "1<-2;", 3, 40);
        bad("heeds " + "not ".repeat(8) + "1<2-(1);", 3, 42);
        fine("heeds " + "not ".repeat(8) + "1<2-1;");
        fine("heeds " + "not ".repeat(7) + "(1)<(2);");
        fine("heeds " + "not ".repeat(7) + "-1<-2;");
        bad("heeds " + "not ".repeat(7) + "(-1)<2;", 3, 35);
        bad("heeds " + "not ".repeat(7) + "1<--2;", 3, 37);
        fine("heeds " + "not ".repeat(8) + "1<2 or " + "not ".repeat(8) + "1<2;");
        fine("heeds " + "not ".repeat(8) + "1<2 and (1)<" + EIGHT_OPEN + "2" + EIGHT_CLOSE + ";");
        bad("second " + "not ".repeat(9) + "1<2;", 3, 39);
        fine("heeds " + "not ".repeat(8) + "1<2;second " + "not ".repeat(8) + "1<2;");
        bad("slip " + EIGHT_OPEN + "(", 3, 13);
        bad("calls 1+" + EIGHT_OPEN + "(", 3, 16);
        so("not not not not not not not not 1=1", true);
        so("not not not not not not not 1=1", false);
        same(EIGHT_OPEN + "7" + EIGHT_CLOSE, 7);
        same("--------7", 7);
        same("-------7", -7);
        same("1-(2-(3-(4-(5-(6-(7-(8-(9))))))))", 5);
    }

    private static void clauseAgain() {
        CHECK.quote("4 a CLAUSE that was there (at its first TOKEN).");
        bad("heeds 1<2;heeds", 4, 10);
        bad("second 1<2; \nsecond 1<2;", 4, 13);
        bad("slip 1;slip 2;", 4, 7);
        bad("calls 1;work 1;calls 1;", 4, 15);
        bad("work 1;heeds 1<2;second 1<2;slip 1;calls 1;work !", 4, 43);
        OxenHome home = new OxenHome();
        Check.tell(home, "slip 1;slip 2;");
        CHECK.due("another text has its own clauses", Check.tell(home, "slip 2;"), 0);
        CHECK.due("and another", Check.tell(home, "slip 3;work 1;"), 1);
    }

    private static void foreignName() {
        CHECK.quote("5 a NAME that isn't of that CLAUSE (at it).");
        bad("work 1+ ear;", 5, 8);
        bad("work -(ear);", 5, 7);
        bad("heeds 1<2 and not 1< soil;", 5, 21);
        bad("second weaker<1;", 5, 7);
        bad("slip soil;", 5, 5);
        bad("calls own;", 5, 6);
        bad("calls 1;slip 1;work hour*farm;", 5, 25);
        bad("work " + EIGHT_OPEN + "pitch", 5, 13);
        bad("work pitch", 5, 5);
        bad("calls ox", 5, 6);
        bad("work oxen;", 1, 5);
    }

    private static void theText() {
        CHECK.quote("THE TEXT (told; at first none) rules.");
        OxenHome home = corners();
        CHECK.due("at first none", home.about(5), -1);
        home.yoke(0, 1, 0);
        CHECK.due("works as without", home.plough(), 11);
        Check.tell(home, "work 3;");
        CHECK.due("none rules unless told", home.plough(), 11);
        home.by(0);
        CHECK.due("it rules", home.plough(), 3);
        Check.tell(home, "slip 1;");
        CHECK.due("it rules on", home.plough(), 3);
        home.by(1);
        CHECK.due("a clause that it has not", home.plough(), 11);
        Check.tell(home, "work !;");
        CHECK.due("the text stays", home.about(5), 1);
        home.by(0);
        home.undo();
        CHECK.due("an undo leaves it", home.about(5), 0);
        home.by(-1);
        CHECK.due("none rules again", home.plough(), 11);
    }
}
