/** Terms 1, the text of a valley, the eaters' kinds, and what is at first: a test for each bound that it names. */
public final class ValleyTextTests extends Checks {
    private static final char FIRST_CODE = 32, LAST_CODE = 126;

    public static void main(String[] args) {
        eatersTwoToFour();
        eatersFromZero();
        commasBetween();
        kindIsALetter();
        hungerIsADigit();
        semicolonBehindTheEaters();
        loavesOneToFive();
        loavesFromZero();
        twoDigitsEach();
        rightBehindTheOther();
        deedsAndHidden();
        noneAtFirst();
        kindsByLetter();
        allAreEaters();
        aTrampIsAPauper();
        allLiveAtFirst();
        nobodyCarriesAtFirst();
        end("the text of a valley is as the document tells it");
    }

    private static String many(String one, String between, int times) {
        StringBuilder text = new StringBuilder();
        for (int i = 0; i < times; i++) {
            text.append(i == 0 ? "" : between).append(one);
        }
        return text.toString();
    }

    /** Of all codes, only these letters may stand behind this beginning. */
    private static void onlyFitting(String ahead, String fitting) {
        for (char code = FIRST_CODE; code <= LAST_CODE; code++) {
            int want = ahead.length() + (fitting.indexOf(code) >= 0 ? 1 : 0);
            due("fault() of " + ahead + code, faultOf(ahead + code), want);
        }
    }

    private static void noValley(String text, int fault) {
        due("valley() of " + text, valleyOf(text), STATE);
        due("fault() of " + text, faultOf(text), fault);
    }

    private static void eatersTwoToFour() {
        says("two to four EATERS");
        noValley(";11", 0);
        noValley("e1;11", 2);
        for (int eaters = 2; eaters <= 4; eaters++) {
            due("count(0)", read(many("e1", ",", eaters) + ";11").count(0), eaters);
        }
        noValley("e1,e1,e1,e1,e1;11", 11);
    }

    private static void eatersFromZero() {
        says("EATERS (numbered from 0)");
        for (int eaters = 2; eaters <= 4; eaters++) {
            SinEaters x = read(many("p1", ",", eaters - 1) + ",t2;11");
            due("the one ahead of the first", x.about(-1, 0), UNKNOWN);
            due("the first", x.about(0, 0), 1);
            due("the last", x.about(eaters - 1, 0), 4);
            due("the one behind the last", x.about(eaters, 0), UNKNOWN);
        }
    }

    private static void commasBetween() {
        says("with \",\" between");
        noValley("e1e1;11", 2);
        noValley(",e1,e1;11", 0);
        noValley("e1,,e1;11", 3);
        noValley("e1,e1,;11", 6);
        noValley("e1.e1;11", 2);
        noValley("e1, e1;11", 3);
    }

    private static void kindIsALetter() {
        says("each a letter, the KIND");
        onlyFitting("", "eprbt");
        onlyFitting("e1,", "eprbt");
        onlyFitting("e1,e1,", "eprbt");
        onlyFitting("e1,e1,e1,", "eprbt");
    }

    private static void hungerIsADigit() {
        says("a digit HUNGER (0 to 9)");
        onlyFitting("e", "0123456789");
        onlyFitting("e1,e1,e1,t", "0123456789");
        for (int hunger = 0; hunger <= 9; hunger++) {
            due("HUNGER", read("e1,e" + hunger + ";11").about(1, 1), hunger);
        }
        noValley("e,e1;11", 1);
        noValley("e10,e1;11", 2);
    }

    private static void semicolonBehindTheEaters() {
        says("then \";\"");
        onlyFitting("e1", ",");
        onlyFitting("e1,e1", ",;");
        onlyFitting("e1,e1,e1", ",;");
        onlyFitting("e1,e1,e1,e1", ";");
        noValley("e1,e111", 5);
        noValley("e1,e1;;11", 6);
        noValley("e1,e1;11;", 8);
        noValley("e1,e1", 5);
    }

    private static void loavesOneToFive() {
        says("one to five LOAVES");
        noValley("e1,e1;", 6);
        for (int loaves = 1; loaves <= 5; loaves++) {
            SinEaters x = read("e1,e1;" + many("11", "", loaves));
            due("count(2)", x.count(2), loaves);
            due("the longest of five loaves", valleyOf("e1,e1,e1,e1;" + many("11", "", loaves)), loaves);
        }
        noValley("e1,e1;111111111111", 16);
        noValley("e1,e1,e1,e1;111111111111", 22);
        onlyFitting("e1,e1;1111111111", "");
    }

    private static void loavesFromZero() {
        says("LOAVES (numbered from 0)");
        for (int loaves = 1; loaves <= 5; loaves++) {
            SinEaters x = read("e1,e1;" + many("10", "", loaves - 1) + "70");
            due("the one ahead of the first", x.loaf(-1, 0), UNKNOWN);
            due("the first", x.loaf(0, 0), loaves == 1 ? 7 : 1);
            due("the last", x.loaf(loaves - 1, 0), 7);
            due("the one behind the last", x.loaf(loaves, 0), UNKNOWN);
        }
    }

    private static void twoDigitsEach() {
        says("two digits each");
        for (int digits = 1; digits <= 11; digits += 2) {
            String text = "e1,e1;" + many("1", "", digits);
            noValley(text, Math.min(text.length(), 16));
        }
        for (int digits = 0; digits <= 9; digits++) {
            onlyFitting("e1,e1,e1,e1;" + many("1", "", digits), "0123456789");
        }
    }

    private static void rightBehindTheOther() {
        says("one right behind the other");
        noValley("e1,e1;11,11", 8);
        noValley("e1,e1;11 11", 8);
        noValley("e1,e1;1,1", 7);
        noValley("e1,e1; 11", 6);
        noValley("e1,e1;11 ", 8);
        due("right behind", valleyOf("e1,e1;1111"), 2);
    }

    private static void deedsAndHidden() {
        says("DEEDS told (0 to 9), HIDDEN (0 to 9)");
        for (int deeds = 0; deeds <= 9; deeds++) {
            for (int hidden = 0; hidden <= 9; hidden++) {
                SinEaters x = read("e1,e1,e1,e1;00000000" + deeds + hidden);
                due("DEEDS", x.loaf(4, 0), deeds);
                due("HIDDEN", x.loaf(4, 1), hidden);
            }
        }
    }

    private static void noneAtFirst() {
        says("At first there is none");
        SinEaters x = new SinEaters();
        dueRow("count()", countAll(x), 0, 0, 0, 0, 0, 0, 0, 0, 0, 0, 0);
        due("no first eater", x.about(0, 0), UNKNOWN);
        due("no first loaf", x.loaf(0, 0), UNKNOWN);
        write(x, "e1,e1;11");
        due("not before it is read", x.winter(), STATE);
    }

    private static void kindsByLetter() {
        says("0 EATER \"e\", 1 PAUPER \"p\", 2 PARSON \"r\", 3 BEGGAR \"b\", 4 TRAMP \"t\"");
        SinEaters x = read("e0,p0,r0,b0;11");
        dueRow("the first four", row(x.about(0, 0), x.about(1, 0), x.about(2, 0), x.about(3, 0)), 0, 1, 2, 3);
        due("the fifth", read("t0,e0;11").about(0, 0), 4);
    }

    private static void allAreEaters() {
        says("All are EATERS");
        SinEaters x = read("e0,p0,r0,b0;11");
        dueRow("the first four", row(x.as(0, 0), x.as(1, 0), x.as(2, 0), x.as(3, 0)), 0, 1, 2, 3);
        due("a tramp", read("e0,t0;11").as(1, 0), 1);
    }

    private static void aTrampIsAPauper() {
        says("a TRAMP is a PAUPER, too");
        SinEaters x = read("p0,t0;9999");
        due("the tramp as a pauper", x.as(1, 1), 1);
        due("the tramp as a tramp", x.as(1, 4), 1);
        due("the pauper as a tramp", x.as(0, 4), NONE);
        due("his kind stays", x.about(1, 0), 4);
    }

    private static void allLiveAtFirst() {
        says("At first all live");
        SinEaters x = read("e0,p0,r0,t0;11");
        for (int eater = 0; eater < 4; eater++) {
            due("about(" + eater + ", 2)", x.about(eater, 2), 1);
        }
        due("count(1)", x.count(1), 4);
    }

    private static void nobodyCarriesAtFirst() {
        says("nobody carries anything");
        SinEaters x = read("e9,p9,b9,t9;99");
        for (int eater = 0; eater < 4; eater++) {
            due("about(" + eater + ", 3)", x.about(eater, 3), 0);
            due("about(" + eater + ", 4)", x.about(eater, 4), 0);
        }
        due("count(4)", x.count(4), 0);
    }
}
