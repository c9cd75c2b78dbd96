/** Promises 1 to 12, their own bounds and refusals: a test for each sentence that names one. */
public final class EdgeTests extends Checks {
    private static final String FULL_PAGE = "eeeeeeeeeeeeeeeeeeeeeeee";

    public static void main(String[] args) {
        newObject();
        letterCodes();
        letterAboveTwentyFour();
        blankTellsHowMany();
        faultFirstLetter();
        faultBehindThoseAhead();
        faultNone();
        valleyTellsLoaves();
        valleyAnotherOneIsGone();
        valleyPageIsEmpty();
        valleyNone();
        aboutBounds();
        aboutWhetherHeLives();
        aboutWouldEatNow();
        asOwnNumber();
        asNoneSuch();
        asBounds();
        loafBounds();
        loafWhetherEaten();
        eatTellsHowMuch();
        eatUnknown();
        eatState();
        halveTellsBoth();
        halveUnknown();
        halveState();
        winterTellsAll();
        winterState();
        dieTellsTheNumber();
        dieUnknown();
        dieState();
        dieFull();
        end("the bounds and refusals of promises 1 to 12 are as the document tells them");
    }

    private static void newObject() {
        says("No VALLEY");
        due("winter()", new SinEaters().winter(), STATE);
        due("image()", new SinEaters().image(), STATE);
        due("count(0)", new SinEaters().count(0), 0);
        due("count(9)", new SinEaters().count(9), 0);
    }

    private static void letterCodes() {
        says("OUTSIDE: code (32 to 126)");
        for (int code : new int[] {LEAST, -1, 0, 10, 31, 127, 128, 255, 256 + 'e', 65536 + 'e', GREATEST}) {
            SinEaters x = new SinEaters();
            due("letter(" + code + ")", x.letter(code), OUTSIDE);
            due("nothing is written", x.count(8), 0);
        }
        for (int code = 32; code <= 126; code++) {
            SinEaters x = new SinEaters();
            due("letter(" + code + ")", x.letter(code), 1);
            due("it is written", x.digest(), digestOf(code, 0, 0, 0, 0, 0, 0, 0, 0, 1, 0, 0));
        }
    }

    private static void letterAboveTwentyFour() {
        says("FULL: above 24");
        SinEaters x = new SinEaters();
        for (int many = 1; many <= 24; many++) {
            due("letter " + many, x.letter('z'), many);
        }
        due("letter 25", x.letter('z'), FULL);
        due("letter 25 again", x.letter(32), FULL);
        due("count(8)", x.count(8), 24);
        due("OUTSIDE comes first", x.letter(127), OUTSIDE);
        due("OUTSIDE comes first", x.letter(31), OUTSIDE);
    }

    private static void blankTellsHowMany() {
        says("THE PAGE is empty: how many letters it had");
        SinEaters x = new SinEaters();
        due("of an empty one", x.blank(), 0);
        due("of one letter", write(x, "z").blank(), 1);
        due("it is empty", x.count(8), 0);
        due("of a full one", write(x, FULL_PAGE).blank(), 24);
        due("again", x.blank(), 0);
        due("the first letter then", x.letter('e'), 1);
        due("no old letter is behind it", x.fault(), 1);
    }

    private static void faultFirstLetter() {
        says("The place (from 0) of the first letter of THE PAGE that no VALLEY has there");
        due("the first letter", faultOf("x"), 0);
        due("the second", faultOf("ex"), 1);
        due("the third", faultOf("e1x"), 2);
        due("the last of a full page", faultOf("e1,e1,e1,e1;1111111111xx"), 22);
        due("two too many digits", faultOf("e1,e1,e1,e1;111111111111"), 22);
        due("a full page of e", faultOf(FULL_PAGE), 1);
        due("the first of two", faultOf("e1;e1;11"), 2);
    }

    private static void faultBehindThoseAhead() {
        says("behind those ahead of it");
        due("a \";\" behind one eater", faultOf("e1;"), 2);
        due("a \";\" behind two", faultOf("e1,e1;"), 6);
        due("a \",\" behind three", faultOf("e1,e1,e1,"), 9);
        due("a \",\" behind four", faultOf("e1,e1,e1,e1,"), 11);
        due("an 11th digit", faultOf("e1,e1;11111111111"), 16);
        due("a \",\" behind a loaf", faultOf("e1,e1;11,"), 8);
        due("an eater behind a loaf", faultOf("e1,e1;11e"), 8);
    }

    private static void faultNone() {
        says("how many letters it has, if there is none");
        String whole = "e0,p9,r0,t9;0099009900";
        for (int length = 0; length <= whole.length(); length++) {
            due("the first " + length, faultOf(whole.substring(0, length)), length);
        }
        SinEaters x = write(new SinEaters(), "e1,e1;11");
        due("fault()", x.fault(), 8);
        due("it stays", x.fault(), 8);
        x.valley();
        due("behind valley()", x.fault(), 0);
    }

    private static void valleyTellsLoaves() {
        says("THE PAGE is read as THE VALLEY: how many LOAVES");
        due("one", valleyOf("e0,e0;00"), 1);
        due("five", valleyOf("t9,t9,t9,t9;9999999999"), 5);
        SinEaters x = read("e0,e0;00");
        due("count(9)", x.count(9), 1);
        due("the second time", write(x, "e0,e0;0000").valley(), 2);
        due("count(9)", x.count(9), 2);
    }

    private static void valleyAnotherOneIsGone() {
        says("another one is gone, with all that was");
        SinEaters x = read("p9,t9,e9,b9;9999999999");
        x.eat(0, 0);
        x.halve(1, 3, 1);
        x.winter();
        x.die(0);
        x.die(2);
        x.say(127, 5, true);
        x.image();
        due("valley()", write(x, "e1,p2;34").valley(), 1);
        dueRow("count()", countAll(x), 2, 2, 1, 0, 0, 0, 0, 0, 0, 2, 0);
        dueRow("eater 0", aboutAll(x, 0), 0, 1, 1, 0, 0, 0, 0, 0);
        dueRow("eater 1", aboutAll(x, 1), 1, 2, 1, 0, 0, 1, 3, 1);
        due("no eater 2", x.about(2, 0), UNKNOWN);
        dueRow("loaf 0", loafAll(x, 0), 3, 4, 0, 1023, 7);
        due("no loaf 1", x.loaf(1, 0), UNKNOWN);
        due("no image", x.restore(), STATE);
    }

    private static void valleyPageIsEmpty() {
        says("THE PAGE is empty then");
        SinEaters x = read("e0,e0;00");
        due("count(8)", x.count(8), 0);
        due("nothing to read", x.valley(), STATE);
        due("letter", x.letter('e'), 1);
    }

    private static void valleyNone() {
        says("STATE: it is none");
        for (String text : new String[] {"", "e", "e1", "e1,e1", "e1,e1;", "e1,e1;1", "e1,e1;111", "e1;11",
                "e1,e1;11111111111", "e1,e1;111111111111", "e1,e1,e1,e1,e1;11", "E1,e1;11", " e1,e1;11",
                "e1,e1;11x", FULL_PAGE}) {
            SinEaters x = write(read("p1,p1;11"), text);
            long before = x.digest();
            due("valley() of " + text, x.valley(), STATE);
            due("it changes nothing", x.digest() == before ? 1 : 0, 1);
        }
        SinEaters kept = read("p1,p1;11");
        kept.image();
        kept.eat(0, 0);
        write(kept, "e1").valley();
        due("the image stays", kept.restore(), 0);
        due("so it can be eaten again", kept.eat(0, 0), 2);
        due("what was ahead goes on", write(kept, ",e1;22").valley(), 1);
    }

    private static void aboutBounds() {
        says("about: UNKNOWN; OUTSIDE");
        SinEaters x = read("e1,p1,t1;11");
        for (int eater : new int[] {LEAST, -1, 3, 4, GREATEST}) {
            due("about(" + eater + ", 0)", x.about(eater, 0), UNKNOWN);
            due("about(" + eater + ", 8): UNKNOWN comes first", x.about(eater, 8), UNKNOWN);
        }
        for (int what : new int[] {LEAST, -1, 8, GREATEST}) {
            due("about(2, " + what + ")", x.about(2, what), OUTSIDE);
        }
        dueRow("0 to 7", aboutAll(x, 2), 4, 1, 1, 0, 0, 1, 1, 1);
        due("no valley", new SinEaters().about(0, 8), UNKNOWN);
    }

    private static void aboutWhetherHeLives() {
        says("2 whether he lives (1, 0)");
        SinEaters x = read("e1,p1;11");
        x.die(1);
        dueRow("0 and 1", row(x.about(0, 2), x.about(1, 2)), 1, 0);
        x.winter();
        due("the dead stay dead", x.about(1, 2), 0);
    }

    private static void aboutWouldEatNow() {
        says("5 which LOAVES he would EAT now, as bits");
        SinEaters x = read("e3,p0,r9,b1;1020304050");
        dueRow("at first", row(x.about(0, 5), x.about(1, 5), x.about(2, 5), x.about(3, 5)), 7, 31, 0, 1);
        x.eat(1, 1);
        dueRow("without the eaten one", row(x.about(0, 5), x.about(1, 5), x.about(3, 5)), 5, 29, 1);
        x.winter();
        dueRow("behind a winter", row(x.about(0, 5), x.about(1, 5), x.about(3, 5)), 29, 29, 13);
        x.die(1);
        dueRow("with the dead one's", row(x.about(0, 5), x.about(1, 5), x.about(3, 5)), 61, 0, 45);
    }

    private static void asOwnNumber() {
        says("his own number (not that of the KIND)");
        SinEaters x = read("t1,b1,p1,r1;11");
        dueRow("as they are", row(x.as(0, 4), x.as(1, 3), x.as(2, 1), x.as(3, 2)), 0, 1, 2, 3);
        dueRow("as eaters", row(x.as(0, 0), x.as(1, 0), x.as(2, 0), x.as(3, 0)), 0, 1, 2, 3);
        due("the tramp as a pauper", x.as(0, 1), 0);
    }

    private static void asNoneSuch() {
        says("NONE: he is none such (the cast fails)");
        SinEaters x = read("e1,p1,r1,b1;11");
        dueRow("an eater", row(x.as(0, 1), x.as(0, 2), x.as(0, 3), x.as(0, 4)), NONE, NONE, NONE, NONE);
        dueRow("a pauper", row(x.as(1, 2), x.as(1, 3), x.as(1, 4)), NONE, NONE, NONE);
        dueRow("a parson", row(x.as(2, 1), x.as(2, 3), x.as(2, 4)), NONE, NONE, NONE);
        dueRow("a beggar", row(x.as(3, 1), x.as(3, 2), x.as(3, 4)), NONE, NONE, NONE);
        SinEaters tramp = read("e1,t1;11");
        dueRow("a tramp", row(tramp.as(1, 2), tramp.as(1, 3)), NONE, NONE);
    }

    private static void asBounds() {
        says("as: UNKNOWN; OUTSIDE");
        SinEaters x = read("e1,p1,t1;11");
        for (int eater : new int[] {LEAST, -1, 3, GREATEST}) {
            due("as(" + eater + ", 0)", x.as(eater, 0), UNKNOWN);
            due("as(" + eater + ", 5): UNKNOWN comes first", x.as(eater, 5), UNKNOWN);
        }
        for (int kind : new int[] {LEAST, -1, 5, GREATEST}) {
            due("as(2, " + kind + ")", x.as(2, kind), OUTSIDE);
        }
        due("no valley", new SinEaters().as(0, 5), UNKNOWN);
    }

    private static void loafBounds() {
        says("loaf: UNKNOWN; OUTSIDE");
        SinEaters x = read("e1,p1,t1;1122");
        for (int loaf : new int[] {LEAST, -1, 2, 7, 8, GREATEST}) {
            due("loaf(" + loaf + ", 0)", x.loaf(loaf, 0), UNKNOWN);
            due("loaf(" + loaf + ", 5): UNKNOWN comes first", x.loaf(loaf, 5), UNKNOWN);
        }
        for (int what : new int[] {LEAST, -1, 5, GREATEST}) {
            due("loaf(1, " + what + ")", x.loaf(1, what), OUTSIDE);
        }
        dueRow("0 to 4", loafAll(x, 1), 2, 2, 0, 1023, 6);
        due("no valley", new SinEaters().loaf(0, 5), UNKNOWN);
    }

    private static void loafWhetherEaten() {
        says("2 whether it was EATEN (1, 0)");
        SinEaters x = read("e9,p1;112233");
        x.eat(0, 0);
        x.halve(0, 1, 2);
        dueRow("0, 1, 2", row(x.loaf(0, 2), x.loaf(1, 2), x.loaf(2, 2)), 1, 0, 1);
        x.die(0);
        due("the dead was not", x.loaf(3, 2), 0);
        x.eat(1, 3);
        due("now he was", x.loaf(3, 2), 1);
    }

    private static void eatTellsHowMuch() {
        says("He EATS it: how much he carries then");
        SinEaters x = read("e9,b9;12341111");
        due("1 and 2", x.eat(0, 0), 3);
        due("3 and 4, with these", x.eat(0, 1), 10);
        due("half of 2", x.eat(1, 2), 1);
        due("half of 2, with this", x.eat(1, 3), 2);
    }

    private static void eatUnknown() {
        says("eat: UNKNOWN: eater, loaf");
        SinEaters x = read("e1,p1;0000");
        for (int eater : new int[] {LEAST, -1, 2, 4, GREATEST}) {
            due("eat(" + eater + ", 0)", x.eat(eater, 0), UNKNOWN);
        }
        for (int loaf : new int[] {LEAST, -1, 2, 8, GREATEST}) {
            due("eat(0, " + loaf + ")", x.eat(0, loaf), UNKNOWN);
        }
        due("no valley", new SinEaters().eat(0, 0), UNKNOWN);
        x.die(0);
        due("a dead one, and no loaf: UNKNOWN comes first", x.eat(0, 3), UNKNOWN);
        due("nothing was eaten", x.count(3), 0);
    }

    private static void eatState() {
        says("STATE: he would not");
        SinEaters x = read("e1,p1,r9;2000");
        due("too much", x.eat(0, 0), STATE);
        due("a parson", x.eat(2, 1), STATE);
        x.eat(1, 1);
        due("eaten", x.eat(0, 1), STATE);
        x.die(1);
        due("dead", x.eat(1, 0), STATE);
        dueRow("nobody but the pauper", countAll(x), 3, 2, 3, 1, 0, 0, 0, 0, 0, 1, 0);
    }

    private static void halveTellsBoth() {
        says("Two HALVE it: how much both carry then together");
        SinEaters x = read("p9,b9,e9;99990011");
        x.eat(0, 0);
        due("18, 9 of 18, and 4 of 9", x.halve(0, 1, 1), 18 + 9 + 4);
        due("nothing more", x.halve(1, 0, 2), 31);
        due("the first one of two others", x.halve(2, 1, 3), 1 + 4);
    }

    private static void halveUnknown() {
        says("UNKNOWN: a, b, or they are the same; loaf");
        SinEaters x = read("e9,p1;0000");
        for (int none : new int[] {LEAST, -1, 2, 4, GREATEST}) {
            due("halve(" + none + ", 0, 0)", x.halve(none, 0, 0), UNKNOWN);
            due("halve(0, " + none + ", 0)", x.halve(0, none, 0), UNKNOWN);
            due("halve(0, 1, " + none + ")", x.halve(0, 1, none), UNKNOWN);
            due("halve(" + none + ", " + none + ", 0)", x.halve(none, none, 0), UNKNOWN);
        }
        due("halve(0, 0, 0)", x.halve(0, 0, 0), UNKNOWN);
        due("halve(1, 1, 1)", x.halve(1, 1, 1), UNKNOWN);
        due("no valley", new SinEaters().halve(0, 1, 0), UNKNOWN);
        x.die(1);
        due("a dead one, and the same: UNKNOWN comes first", x.halve(1, 1, 0), UNKNOWN);
        due("a dead one, and no loaf: UNKNOWN comes first", x.halve(1, 0, 3), UNKNOWN);
        due("nothing was eaten", x.count(3), 0);
    }

    private static void halveState() {
        says("STATE: one of both would not EAT it");
        SinEaters x = read("e1,p1,r9,b2;200010");
        due("the first one", x.halve(0, 1, 0), STATE);
        due("the other one", x.halve(1, 0, 0), STATE);
        due("both", x.halve(0, 2, 0), STATE);
        due("a parson", x.halve(2, 3, 1), STATE);
        x.halve(0, 1, 1);
        due("eaten", x.halve(0, 1, 1), STATE);
        x.die(3);
        due("dead", x.halve(1, 3, 2), STATE);
        dueRow("one was halved", countAll(x), 4, 3, 4, 1, 0, 0, 0, 0, 0, 1, 0);
    }

    private static void winterTellsAll() {
        says("A WINTER: how much all carry then");
        SinEaters x = read("p0,b9,t0;995577");
        due("nothing", x.winter(), 0);
        x.eat(0, 0);
        x.eat(1, 1);
        x.eat(2, 2);
        due("18 and 5, not the tramp's", x.winter(), 23);
        due("count(4)", x.count(4), 23);
        due("count(6)", x.count(6), 2);
    }

    private static void winterState() {
        says("winter: STATE: no VALLEY");
        SinEaters x = new SinEaters();
        due("winter()", x.winter(), STATE);
        due("count(6)", x.count(6), 0);
        write(x, "e1,e1;11");
        due("a page is none", x.winter(), STATE);
        x.valley();
        due("now there is one", x.winter(), 0);
    }

    private static void dieTellsTheNumber() {
        says("He dies: the number of the LOAF");
        dueRow("behind one loaf", row(read("e1,e1;11").die(0), read("e1,e1;11").die(1)), 1, 1);
        due("behind five", read("e1,e1;1111111111").die(1), 5);
        SinEaters x = read("e1,e1,e1;11");
        dueRow("one behind the other", row(x.die(2), x.die(0), x.die(1)), 1, 2, 3);
    }

    private static void dieUnknown() {
        says("die: UNKNOWN");
        SinEaters x = read("e1,e1,e1;11");
        for (int eater : new int[] {LEAST, -1, 3, 4, GREATEST}) {
            due("die(" + eater + ")", x.die(eater), UNKNOWN);
        }
        due("no valley", new SinEaters().die(0), UNKNOWN);
        due("all live", x.count(1), 3);
    }

    private static void dieState() {
        says("STATE: he does not live");
        SinEaters x = read("e1,e1;11");
        x.die(0);
        due("die(0)", x.die(0), STATE);
        due("no loaf more", x.count(2), 2);
        x.winter();
        due("nor behind a winter", x.die(0), STATE);
    }

    private static void dieFull() {
        says("FULL: there are 8 LOAVES");
        SinEaters x = read("e1,e1,e1,e1;1111111111");
        x.die(0);
        x.die(1);
        due("the 8th", x.die(2), 7);
        due("the 9th", x.die(3), FULL);
        due("STATE comes first", x.die(2), STATE);
        due("UNKNOWN comes first", x.die(4), UNKNOWN);
        x.eat(3, 0);
        due("eaten ones are LOAVES, too", x.die(3), FULL);
        due("he lives", x.count(1), 1);
    }
}
