/** Terms 2 and 3, SPREAD, FED, SAID, BAKED, ASK, WINTERS, IMAGE: a test for each bound that they name. */
public final class CouldBeTests extends Checks {
    public static void main(String[] args) {
        spreadOfThoseNotEaten();
        spreadByOneAlone();
        spreadByNumber();
        spreadHungerAsItIsThen();
        spreadWhoCarriesMost();
        spreadIfNoLoafIsLeft();
        spreadOfLikeOnesTheFirst();
        spreadNone();
        fedOfThoseNotEaten();
        fedByNumber();
        fedPaidMost();
        fedOfLikeOnesTheLeast();
        fedIfNonePays();
        saidSixAtMost();
        saidJustSomeLoaves();
        saidMoreThanSoMany();
        saidByThem();
        saidNoBeggar();
        bakedZeroToNine();
        bakedOthersAsTheyAre();
        bakedAllSaid();
        askZeroToTwenty();
        askItAlone();
        askFewestAtWorst();
        askOfLikeOnesTheLeast();
        askNone();
        end("what could be is as the document tells it");
    }

    private static void spreadOfThoseNotEaten() {
        says("by whom all LOAVES that were not EATEN could be EATEN");
        SinEaters x = read("p0,p0;999911");
        x.eat(0, 1);
        x.eat(1, 0);
        dueRow("one is left", spreadAll(x), 20, NONE, NONE, 0, NONE, NONE, NONE, NONE, NONE);
        SinEaters dead = read("p0,p0,r0;1122");
        dead.eat(0, 0);
        dead.die(0);
        dueRow("the dead are loaves, and eat none", spreadAll(dead), 6, NONE, 1, 1, NONE, NONE, NONE, NONE, NONE);
    }

    private static void spreadByOneAlone() {
        says("each by one alone");
        dueRow("not by halves", spreadAll(read("p0,p0;99")), 18, 0, NONE, NONE, NONE, NONE, NONE, NONE, NONE);
    }

    private static void spreadByNumber() {
        says("by number");
        due("7 ahead of 9", read("e9,r9;7090").spread(0), NONE);
        due("9 ahead of 7", read("e9,r9;9070").spread(0), 16);
    }

    private static void spreadHungerAsItIsThen() {
        says("HUNGER as it is then");
        due("8 behind 9", read("e9,r9;9080").spread(0), NONE);
        due("7 behind 9", read("e9,r9;9070").spread(10), 0);
        due("0 behind 1: not below 0", read("e1,r9;1000").spread(0), 1);
        due("1 behind 1", read("e1,r9;1010").spread(0), NONE);
        due("1 behind 1, by two", read("e1,b1;1010").spread(0), 1);
        dueRow("3 behind 1 he would not, 3 alone he would", spreadAll(read("e3,p0;133522")),
            8, 1, 0, 1, NONE, NONE, NONE, NONE, NONE);
        dueRow("9 not behind 5", spreadAll(read("e9,p0;509080")), 13, 1, 0, 1, NONE, NONE, NONE, NONE, NONE);
        due("five by a pauper", read("r9,p0;9999999999").spread(0), 90);
    }

    private static void spreadWhoCarriesMost() {
        says("so that who carries most in the end carries least");
        dueRow("5 and 4, 3", spreadAll(read("p0,p0;504030")), 7, 0, 1, 1, NONE, NONE, NONE, NONE, NONE);
        SinEaters x = read("p0,p0,p0;99504030");
        x.eat(0, 0);
        dueRow("what is carried ahead counts", spreadAll(x), 18, NONE, 1, 1, 1, NONE, NONE, NONE, NONE);
        SinEaters less = read("p0,p0;20301020");
        less.eat(0, 0);
        dueRow("2 with 2, 3 with 1", spreadAll(less), 4, NONE, 1, 1, 0, NONE, NONE, NONE, NONE);
        dueRow("a beggar's half", spreadAll(read("b9,p0;906010")), 6, 0, 1, 0, NONE, NONE, NONE, NONE, NONE);
        due("as much as nothing", read("b9,p0;1001").spread(0), 0);
        due("nothing", read("e0,p0;000000").spread(0), 0);
    }

    private static void spreadIfNoLoafIsLeft() {
        says("if no LOAF is left, how much is carried most as it is");
        SinEaters x = read("p0,p0;9955");
        x.eat(0, 1);
        x.eat(1, 0);
        dueRow("18 of 18 and 10", spreadAll(x), 18, NONE, NONE, NONE, NONE, NONE, NONE, NONE, NONE);
        SinEaters first = read("p0,p0;9955");
        first.eat(0, 0);
        first.eat(1, 1);
        due("18 of the first one", first.spread(0), 18);
        SinEaters nothing = read("t0,t0;99");
        nothing.eat(0, 0);
        nothing.winter();
        due("nothing is carried", nothing.spread(0), 0);
    }

    private static void spreadOfLikeOnesTheFirst() {
        says("of like ones the first by numbers");
        dueRow("one loaf", spreadAll(read("r9,p0,p0;11")), 2, 1, NONE, NONE, NONE, NONE, NONE, NONE, NONE);
        dueRow("4 and 2, 2", spreadAll(read("p0,p0,p0;221111")), 4, 0, 1, 1, NONE, NONE, NONE, NONE, NONE);
        dueRow("three like ones", spreadAll(read("p0,p0,p0;111111")), 2, 0, 1, 2, NONE, NONE, NONE, NONE, NONE);
        SinEaters x = read("p0,p0,p0;996050");
        x.eat(2, 0);
        dueRow("11 is no more than 18", spreadAll(x), 18, NONE, 0, 0, NONE, NONE, NONE, NONE, NONE);
        dueRow("the crumbs", spreadAll(read("p0,e0;0000009000")), 9, 0, 0, 0, 0, 0, NONE, NONE, NONE);
    }

    private static void spreadNone() {
        says("of like ones the first by numbers; none");
        dueRow("too much for all", spreadAll(read("e1,b1,r9;20")), -1, -1, -1, -1, -1, -1, -1, -1, -1);
        dueRow("too much at the end", spreadAll(read("e8,b8,r9;0020100090")), -1, -1, -1, -1, -1, -1, -1, -1, -1);
        SinEaters dead = read("p0,p0;11");
        dead.eat(0, 0);
        due("all were eaten", dead.spread(0), 2);
        dead.die(0);
        due("one is left", dead.spread(0), 2);
        due("by the other one", dead.spread(11), 1);
        dead.die(1);
        due("nobody lives", dead.spread(0), NONE);
        due("nobody eats it", dead.spread(11), NONE);
    }

    private static void fed(SinEaters x, int eater, int pay, int bits) {
        dueRow("FED, and by which", row(x.about(eater, 6), x.about(eater, 7)), pay, bits);
    }

    private static void fedOfThoseNotEaten() {
        says("which LOAVES (as bits) that were not EATEN he could EAT");
        SinEaters x = read("p0,p0,p0,p0;9090909090");
        fed(x, 3, 45, 31);
        x.eat(0, 0);
        x.eat(1, 1);
        x.eat(2, 2);
        fed(x, 3, 18, 24);
        x.die(0);
        x.die(1);
        x.die(2);
        fed(x, 3, 45, 8 + 16 + 32 + 64 + 128);
        fed(x, 0, 0, 0);
        fed(read("r9,p0;9090"), 0, 0, 0);
    }

    private static void fedByNumber() {
        says("one behind the other by number");
        fed(read("e9,r0;7090"), 0, 9, 2);
        fed(read("e9,r0;9070"), 0, 16, 3);
        fed(read("e9,r0;9080"), 0, 9, 1);
        fed(read("e5,r0;5040302010"), 0, 9, 1 + 4 + 16);
        fed(read("b3,r0;3900100010"), 0, 4, 1 + 4);
    }

    private static void fedPaidMost() {
        says("so that he is PAID most: how much");
        fed(read("e9,r0;1971"), 0, 8, 3);
        fed(read("e9,r0;1090"), 0, 9, 2);
        fed(read("b9,r0;9975"), 0, 16, 3);
        fed(read("t0,r0;0910"), 0, 1, 2);
        fed(read("e3,r0;101010"), 0, 2, 3);
    }

    private static void fedOfLikeOnesTheLeast() {
        says("of like ones the least bits");
        fed(read("e3,r0;201030"), 0, 3, 3);
        fed(read("e2,r0;202020"), 0, 2, 1);
        fed(read("p0,r0;0090"), 0, 9, 2);
        fed(read("p0,r0;1000100010"), 0, 3, 21);
    }

    private static void fedIfNonePays() {
        says("(0, if none pays)");
        fed(read("e9,r0;0909"), 0, 0, 0);
        fed(read("p9,r0;0000"), 0, 0, 0);
        fed(read("e0,r0;10"), 0, 0, 0);
        SinEaters x = read("p0,p0;90");
        x.eat(0, 0);
        fed(x, 1, 0, 0);
    }

    private static void saidSixAtMost() {
        says("SAID (6 at most)");
        SinEaters x = read("p0,p0;52");
        for (int i = 1; i <= 6; i++) {
            due("say " + i, x.say(1, 4 + i, true), i);
        }
        due("the sixth counts, too: more than 10", x.loaf(0, 3), 0b1111000000);
        due("say 7", x.say(1, 11, true), FULL);
        due("it was not said", x.loaf(0, 3), 0b1111000000);
        due("count(7)", x.count(7), 6);
        x.forget();
        due("again", x.say(1, 11, true), 1);
    }

    private static int bakedIf(String text, int asked, int loaves, int much, boolean more) {
        SinEaters x = read(text);
        due("say()", x.say(loaves, much, more), 1);
        return x.loaf(asked, 3);
    }

    private static void saidJustSomeLoaves() {
        says("that who EATS just some LOAVES (as bits)");
        due("none, more than 0", bakedIf("p0,p0;9999", 0, 0, 0, true), 0);
        due("none, not more than 0", bakedIf("p0,p0;9999", 0, 0, 0, false), 1023);
        due("the first, more than 17", bakedIf("p0,p0;9999", 0, 1, 17, true), 512);
        due("the second, more than 17", bakedIf("p0,p0;9999", 0, 2, 17, true), 1023);
        due("both, more than 35", bakedIf("p0,p0;9999", 1, 3, 35, true), 512);
        due("all five, not more than 82", bakedIf("p0,p0;9999999999", 4, 31, 82, false), 3);
    }

    private static void saidMoreThanSoMany() {
        says("carries more than so many (0 to 99) by them (no BEGGAR), or not");
        due("5 and more than 2", bakedIf("p0,p0;52", 0, 1, 7, true), 0b1111111000);
        due("5 and not more than 2", bakedIf("p0,p0;52", 0, 1, 7, false), 0b0000000111);
        due("more than 0", bakedIf("p0,p0;00", 0, 1, 0, true), 1022);
        due("not more than 0", bakedIf("p0,p0;00", 0, 1, 0, false), 1);
        due("more than 99", bakedIf("p0,p0;99", 0, 1, 99, true), 0);
        due("not more than 99", bakedIf("p0,p0;99", 0, 1, 99, false), 1023);
    }

    private static void saidByThem() {
        says("by them");
        SinEaters x = read("p0,p0;5299");
        x.eat(0, 1);
        x.eat(1, 0);
        x.winter();
        x.say(1, 7, true);
        due("what is carried besides does not count", x.loaf(0, 3), 0b1111111000);
        due("eaten as it was", x.loaf(1, 3), 0);
    }

    private static void saidNoBeggar() {
        says("(no BEGGAR)");
        due("among beggars, too", bakedIf("b9,b9;52", 0, 1, 7, true), 0b1111111000);
        due("among parsons", bakedIf("r9,r9;52", 0, 1, 7, false), 0b0000000111);
    }

    private static void bakedZeroToNine() {
        says("how much can be HIDDEN in it (0 to 9)");
        due("nothing is said", read("p0,p0;52").loaf(0, 3), 1023);
        due("0 alone", bakedIf("p0,p0;52", 0, 1, 5, false), 1);
        due("not even 0", bakedIf("p0,p0;52", 0, 1, 4, false), 0);
        due("9 alone", bakedIf("p0,p0;52", 0, 1, 13, true), 512);
        due("not even 9", bakedIf("p0,p0;52", 0, 1, 14, true), 0);
        SinEaters dead = read("p0,p0;9999");
        dead.eat(0, 0);
        dead.eat(0, 1);
        dead.die(0);
        due("27 are hidden", dead.loaf(2, 1), 27);
        due("nothing is said", dead.loaf(2, 3), 1023);
        dead.say(4, 17, true);
        due("9 and more than 8", dead.loaf(2, 3), 512);
        dead.say(4, 18, true);
        due("9 and more than 9", dead.loaf(2, 3), 0);
    }

    private static void bakedOthersAsTheyAre() {
        says("all others as they are");
        due("5 and 7, more than 14", bakedIf("p0,p0;5234", 0, 3, 14, true), 0b1111111000);
        due("7 and 3, more than 14", bakedIf("p0,p0;5234", 1, 3, 14, true), 0b1111100000);
        SinEaters dead = read("p0,p0;999999");
        dead.eat(0, 1);
        dead.eat(0, 2);
        dead.die(0);
        dead.say(9, 53, true);
        due("9 and 36, more than 53", dead.loaf(0, 3), 512);
    }

    private static void bakedAllSaid() {
        says("so that all SAID is so");
        SinEaters again = read("p0,p0;52");
        again.say(1, 7, true);
        again.say(1, 9, false);
        due("3 and 4", again.loaf(0, 3), 0b11000);
        again.forget();
        again.say(1, 7, false);
        again.say(1, 6, true);
        due("2", again.loaf(0, 3), 0b100);
        SinEaters x = read("p0,p0;5234");
        x.say(1, 7, true);
        x.say(1, 10, false);
        due("3, 4, 5", x.loaf(0, 3), 0b111000);
        x.say(2, 6, false);
        due("the other one has 4", x.loaf(0, 3), 0);
        due("it can have 3 at most, but the first one has 2", x.loaf(1, 3), 0);
        x.forget();
        x.say(1, 7, true);
        x.say(1, 7, false);
        due("both can't be", x.loaf(0, 3), 0);
    }

    /** What to ask of a loaf with so many told, if this is more than these and no more than those. */
    private static int askIf(int told, int moreThan, int notMoreThan) {
        SinEaters x = read("p0,p0;" + told + "5");
        if (moreThan >= 0) {
            x.say(1, moreThan, true);
        }
        x.say(1, notMoreThan, false);
        return x.loaf(0, 4);
    }

    private static void askZeroToTwenty() {
        says("than how many (0 to 20) to ask");
        due("0 or 1", askIf(0, -1, 1), 0);
        due("1 or 2", askIf(0, 0, 2), 1);
        due("2 or 3", askIf(0, 1, 3), 2);
        due("9 or 10", askIf(9, -1, 10), 9);
        due("16 or 17", askIf(9, 15, 17), 16);
        due("17 or 18", askIf(9, 16, 18), 17);
    }

    private static void askItAlone() {
        says("whether it alone is more");
        SinEaters x = read("p0,p0;5234");
        x.say(3, 16, true);
        x.say(3, 18, false);
        dueRow("5 or 6 are hidden beside the 7", row(x.loaf(0, 3), x.loaf(0, 4)), 0b1100000, 10);
        dueRow("7 or 8 are hidden beside the 7", row(x.loaf(1, 3), x.loaf(1, 4)), 0b110000000, 10);
        due("5 and 0 or 1", askIf(5, -1, 6), 5);
    }

    private static void askFewestAtWorst() {
        says("so that fewest of these are left at worst");
        due("0 to 9 behind 0", read("p0,p0;05").loaf(0, 4), 4);
        due("0 to 9 behind 9", read("p0,p0;95").loaf(0, 4), 13);
        due("0 to 3 behind 5", askIf(5, -1, 8), 6);
        due("6 to 9 behind 5", askIf(5, 10, 14), 12);
    }

    private static void askOfLikeOnesTheLeast() {
        says("of like ones the least");
        due("5 alone: all leave one", askIf(9, 13, 14), 0);
        due("0, 1, 2 behind 0", askIf(0, -1, 2), 0);
        due("0, 1, 2 behind 3", askIf(3, -1, 5), 3);
        due("7, 8, 9 behind 9", askIf(9, 15, 18), 16);
    }

    private static void askNone() {
        says("none, if there are none");
        due("not even 0", askIf(5, -1, 4), NONE);
        due("not even 9", askIf(9, 18, 99), NONE);
        due("none between", askIf(9, 14, 14), NONE);
    }
}
