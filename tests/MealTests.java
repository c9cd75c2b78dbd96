/** Terms 1, who eats and halves, winters and deaths: a test for each bound and rounding that they name. */
public final class MealTests extends Checks {
    public static void main(String[] args) {
        ifHeLives();
        ifNotEaten();
        noMoreThanHisHunger();
        aPauperAnyLoaf();
        aParsonNone();
        paidAsDeedsAreTold();
        carriesWhatIsHidden();
        aBeggarHalf();
        twoLess();
        eachWouldEat();
        firstPaidRoundedUp();
        firstCarriesRoundedUp();
        theOtherTheRest();
        aBeggarHalfOfHisPart();
        oneLess();
        threeMore();
        ofAllWhoLive();
        aTrampCarriesNothing();
        eightLoaves();
        nineTold();
        theRestIsHidden();
        carriesNothingThen();
        end("meals, winters and deaths are as the document tells them");
    }

    private static SinEaters of(String first, String second, int loaf) {
        return read(first + "," + second + ";" + loaf / 10 + loaf % 10);
    }

    private static void wouldNot(SinEaters x, int eater, int loaf) {
        long before = x.digest();
        due("eat(" + eater + ", " + loaf + ")", x.eat(eater, loaf), STATE);
        due("whether he would", x.about(eater, 5) >> loaf & 1, 0);
        due("it changes nothing", x.digest() == before ? 1 : 0, 1);
    }

    private static void would(SinEaters x, int eater, int loaf, int carries) {
        due("whether he would", x.about(eater, 5) >> loaf & 1, 1);
        due("eat(" + eater + ", " + loaf + ")", x.eat(eater, loaf), carries);
        due("it was eaten", x.loaf(loaf, 2), 1);
    }

    private static void ifHeLives() {
        says("An EATER EATS a LOAF, if he lives");
        for (String kind : new String[] {"e9", "p9", "b9", "t9"}) {
            SinEaters x = of(kind, "r0", 0);
            x.die(0);
            wouldNot(x, 0, 0);
            wouldNot(x, 0, 1);
            due("none of them", x.about(0, 5), 0);
        }
    }

    private static void ifNotEaten() {
        says("it was not EATEN");
        SinEaters x = read("p9,t9,e9;000000");
        would(x, 0, 0, 0);
        wouldNot(x, 0, 0);
        wouldNot(x, 1, 0);
        due("halved", x.halve(0, 1, 1), 0);
        wouldNot(x, 0, 1);
        wouldNot(x, 2, 1);
        due("halved again", x.halve(0, 1, 1), STATE);
        x.die(0);
        would(x, 1, 3, 0);
        wouldNot(x, 2, 3);
    }

    private static void noMoreThanHisHunger() {
        says("of it no more DEEDS are told than his HUNGER");
        for (int hunger = 0; hunger <= 9; hunger++) {
            would(of("e" + hunger, "r0", 10 * hunger), 0, 0, hunger);
            would(of("b" + hunger, "r0", 10 * hunger), 0, 0, hunger / 2);
            if (hunger < 9) {
                wouldNot(of("e" + hunger, "r0", 10 * hunger + 10), 0, 0);
                wouldNot(of("b" + hunger, "r0", 10 * hunger + 10), 0, 0);
            }
        }
        would(of("e0", "r0", 9), 0, 0, 9);
    }

    private static void aPauperAnyLoaf() {
        says("a PAUPER, a TRAMP any LOAF");
        would(of("p0", "r0", 99), 0, 0, 18);
        would(of("t0", "r0", 99), 0, 0, 18);
        would(of("p0", "r0", 10), 0, 0, 1);
        would(of("t0", "r0", 10), 0, 0, 1);
    }

    private static void aParsonNone() {
        says("a PARSON none");
        SinEaters x = of("r9", "p9", 0);
        wouldNot(x, 0, 0);
        due("halve(0, 1, 0)", x.halve(0, 1, 0), STATE);
        due("halve(1, 0, 0)", x.halve(1, 0, 0), STATE);
        due("FED", x.about(0, 6), 0);
    }

    private static void paidAsDeedsAreTold() {
        says("He is PAID as many groats as DEEDS are told of it");
        int[][] loafAndPay = {{0, 0}, {9, 0}, {10, 1}, {98, 9}, {99, 9}};
        for (int[] one : loafAndPay) {
            for (String kind : new String[] {"e9", "p9", "b9", "t9"}) {
                SinEaters x = of(kind, "r0", one[0]);
                x.eat(0, 0);
                due(kind + " paid for " + one[0], x.about(0, 4), one[1]);
                due("groats in all", x.count(5), one[1]);
            }
        }
    }

    private static void carriesWhatIsHidden() {
        says("he carries these, and what is HIDDEN, besides");
        int[][] loafAndLoad = {{0, 0}, {9, 9}, {90, 9}, {99, 18}, {1, 1}, {10, 1}};
        for (int[] one : loafAndLoad) {
            would(of("e9", "r0", one[0]), 0, 0, one[1]);
            would(of("p0", "r0", one[0]), 0, 0, one[1]);
            would(of("t0", "r0", one[0]), 0, 0, one[1]);
        }
        SinEaters all = read("p0,r0;9999999999");
        for (int loaf = 0; loaf < 5; loaf++) {
            would(all, 0, loaf, 18 * (loaf + 1));
        }
    }

    private static void aBeggarHalf() {
        says("a BEGGAR half of both together, rounded down");
        int[][] loafAndLoad = {{0, 0}, {1, 0}, {10, 0}, {11, 1}, {12, 1}, {33, 3}, {54, 4}, {98, 8}, {99, 9}};
        for (int[] one : loafAndLoad) {
            would(of("b9", "r0", one[0]), 0, 0, one[1]);
        }
        SinEaters each = read("b9,r0;0101");
        would(each, 0, 0, 0);
        would(each, 0, 1, 0);
    }

    private static void twoLess() {
        says("Then his HUNGER is 2 less (0 at least)");
        int[][] before = {{0, 0}, {1, 0}, {2, 0}, {3, 1}, {9, 7}};
        for (int[] one : before) {
            for (String kind : new String[] {"e", "p", "b", "t"}) {
                SinEaters x = of(kind + one[0], "r5", 0);
                x.eat(0, 0);
                due(kind + one[0] + " then", x.about(0, 1), one[1]);
                due("the other one", x.about(1, 1), 5);
            }
        }
    }

    private static void eachWouldEat() {
        says("Two HALVE a LOAF that each of them would EAT");
        SinEaters x = read("e4,e5,p0,r9;5040");
        due("the first would not", x.halve(0, 1, 0), STATE);
        due("the other would not", x.halve(1, 0, 0), STATE);
        due("no parson", x.halve(1, 3, 1), STATE);
        due("both would", x.halve(1, 2, 0), 5);
        due("it was eaten", x.halve(1, 2, 0), STATE);
        due("no more than 4", x.halve(0, 1, 1), 4 + 3);
        SinEaters dead = read("p0,p0,p0;11");
        dead.die(1);
        due("a dead one behind", dead.halve(0, 1, 0), STATE);
        due("a dead one ahead", dead.halve(1, 0, 0), STATE);
        due("two who live", dead.halve(0, 2, 0), 2);
    }

    /** {loaf, paid first, paid other, carried first, carried other} */
    private static final int[][] HALVES = {
        {0, 0, 0, 0, 0}, {1, 0, 0, 1, 0}, {10, 1, 0, 1, 0}, {11, 1, 0, 1, 1}, {12, 1, 0, 2, 1}, {20, 1, 1, 1, 1},
        {30, 2, 1, 2, 1}, {98, 5, 4, 9, 8}, {99, 5, 4, 9, 9}, {89, 4, 4, 9, 8}, {9, 0, 0, 5, 4}};

    private static SinEaters halved(String first, String other, int loaf) {
        SinEaters x = of(first, other, loaf);
        int together = x.halve(0, 1, 0);
        due("together", together, x.about(0, 3) + x.about(1, 3));
        return x;
    }

    private static void firstPaidRoundedUp() {
        says("the first one is PAID half of its DEEDS, rounded up");
        for (int[] one : HALVES) {
            due("of " + one[0], halved("p0", "t0", one[0]).about(0, 4), one[1]);
        }
    }

    private static void firstCarriesRoundedUp() {
        says("carries half of DEEDS and HIDDEN together, rounded up");
        for (int[] one : HALVES) {
            due("of " + one[0], halved("e9", "t0", one[0]).about(0, 3), one[3]);
        }
    }

    private static void theOtherTheRest() {
        says("the other one is PAID, and carries, the rest");
        for (int[] one : HALVES) {
            due("paid of " + one[0], halved("p0", "e9", one[0]).about(1, 4), one[2]);
            due("carried of " + one[0], halved("t0", "p0", one[0]).about(1, 3), one[4]);
        }
        SinEaters turned = read("p0,p0;99");
        turned.halve(1, 0, 0);
        dueRow("the first as told comes first", row(turned.about(1, 4), turned.about(0, 4)), 5, 4);
    }

    private static void aBeggarHalfOfHisPart() {
        says("a BEGGAR carries half of his part, rounded down");
        for (int[] one : HALVES) {
            SinEaters behind = halved("p0", "b9", one[0]);
            due("behind, of " + one[0], behind.about(1, 3), one[4] / 2);
            due("behind, paid of " + one[0], behind.about(1, 4), one[2]);
            due("ahead of him, of " + one[0], behind.about(0, 3), one[3]);
            SinEaters ahead = halved("b9", "p0", one[0]);
            due("ahead, of " + one[0], ahead.about(0, 3), one[3] / 2);
            due("ahead, paid of " + one[0], ahead.about(0, 4), one[1]);
            due("behind him, of " + one[0], ahead.about(1, 3), one[4]);
        }
        due("two beggars at 18", halved("b9", "b9", 99).count(4), 8);
        due("two beggars at 2", halved("b9", "b9", 11).count(4), 0);
    }

    private static void oneLess() {
        says("then the HUNGER of both is 1 less (0 at least)");
        int[][] before = {{0, 0}, {1, 0}, {2, 1}, {9, 8}};
        for (int[] first : before) {
            for (int[] other : before) {
                SinEaters x = halved("p" + first[0], "e" + other[0], 0);
                dueRow("then", row(x.about(0, 1), x.about(1, 1)), first[1], other[1]);
            }
        }
    }

    private static void threeMore() {
        says("A WINTER makes HUNGER of all who live 3 more (9 at most)");
        for (int hunger = 0; hunger <= 9; hunger++) {
            String h = Integer.toString(hunger);
            SinEaters x = read("e" + h + ",p" + h + ",r" + h + ",b" + h + ";11");
            x.winter();
            int then = hunger <= 6 ? hunger + 3 : 9;
            dueRow("behind " + h, row(x.about(0, 1), x.about(1, 1), x.about(2, 1), x.about(3, 1)),
                then, then, then, then);
        }
        SinEaters tramp = read("t6,t7;11");
        tramp.winter();
        dueRow("tramps", row(tramp.about(0, 1), tramp.about(1, 1)), 9, 9);
    }

    private static void ofAllWhoLive() {
        says("of all who live");
        SinEaters x = read("e1,p2,t3;11");
        x.die(0);
        x.die(2);
        x.winter();
        dueRow("HUNGER", row(x.about(0, 1), x.about(1, 1), x.about(2, 1)), 1, 5, 3);
        x.die(1);
        due("nobody lives", x.winter(), 0);
        due("it is a winter", x.count(6), 2);
        dueRow("HUNGER", row(x.about(0, 1), x.about(1, 1), x.about(2, 1)), 1, 5, 3);
    }

    private static void aTrampCarriesNothing() {
        says("a TRAMP who lives carries nothing any more then");
        SinEaters x = read("t0,p0,b9,t0;9999999999");
        x.eat(0, 0);
        x.eat(1, 1);
        x.eat(2, 2);
        x.eat(3, 3);
        x.die(3);
        due("all but the tramps'", x.winter(), 18 + 9);
        dueRow("each", row(x.about(0, 3), x.about(1, 3), x.about(2, 3), x.about(3, 3)), 0, 18, 9, 0);
        due("he was paid", x.about(0, 4), 9);
        dueRow("the dead tramp's loaf stays", row(x.loaf(5, 0), x.loaf(5, 1)), 9, 9);
    }

    private static void eightLoaves() {
        says("he is a new LOAF (8 LOAVES at most)");
        SinEaters x = read("e1,e1,e1,e1;1111111111");
        dueRow("the 6th, 7th, 8th", row(x.die(3), x.die(0), x.die(2)), 5, 6, 7);
        long before = x.digest();
        due("the 9th", x.die(1), FULL);
        due("it changes nothing", x.digest() == before ? 1 : 0, 1);
        due("he lives", x.about(1, 2), 1);
        SinEaters four = read("e1,e1,e1,e1;11111111");
        dueRow("the 5th to 8th", row(four.die(0), four.die(1), four.die(2), four.die(3)), 4, 5, 6, 7);
        dueRow("loaves, and who live", row(four.count(2), four.count(1)), 8, 0);
    }

    private static void nineTold() {
        says("of it as many DEEDS are told as he carries, 9 at most");
        int[][] loafAndTold = {{0, 0}, {1, 1}, {44, 8}, {45, 9}, {55, 9}, {56, 9}, {99, 9}};
        for (int[] one : loafAndTold) {
            SinEaters x = of("p0", "r0", one[0]);
            x.eat(0, 0);
            due("die(0)", x.die(0), 1);
            due("told of the eater of " + one[0], x.loaf(1, 0), one[1]);
        }
    }

    private static void theRestIsHidden() {
        says("the rest is HIDDEN");
        int[][] loafAndHidden = {{0, 0}, {1, 0}, {45, 0}, {55, 1}, {99, 9}};
        for (int[] one : loafAndHidden) {
            SinEaters x = of("p0", "r0", one[0]);
            x.eat(0, 0);
            x.die(0);
            due("hidden of the eater of " + one[0], x.loaf(1, 1), one[1]);
        }
        SinEaters all = read("p0,p0;9999999999");
        for (int loaf = 0; loaf < 5; loaf++) {
            all.eat(0, loaf);
        }
        due("die(0)", all.die(0), 5);
        dueRow("of 90, told and hidden", row(all.loaf(5, 0), all.loaf(5, 1)), 9, 81);
        due("who eats him carries all", all.eat(1, 5), 90);
        due("and is paid what is told", all.about(1, 4), 9);
    }

    private static void carriesNothingThen() {
        says("he carries nothing then");
        SinEaters x = of("p7", "r0", 99);
        x.eat(0, 0);
        x.die(0);
        dueRow("of the dead one", aboutAll(x, 0), 1, 5, 0, 0, 9, 0, 0, 0);
        dueRow("carried, and paid in all", row(x.count(4), x.count(5)), 0, 9);
    }
}
