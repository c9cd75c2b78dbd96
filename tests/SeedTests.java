/** Terms 3, WINTERS by a SEED, and an IMAGE: a test for each bound and rounding that they name. */
public final class SeedTests extends Checks {
    /** {seed, the eater drawn of four, the loaf drawn of five}, worked out apart from the program. */
    private static final int[][] DRAWN = {{0, 0, 3}, {2, 0, 2}, {3, 3, 2}, {6, 2, 0}, {13, 2, 3}, {16, 1, 1},
        {19, 0, 1}, {26, 0, 4}, {33, 0, 0}, {38, 3, 0}};

    public static void main(String[] args) {
        soManyTimes();
        oneByADraw();
        theLoafByADraw();
        ifHeWould();
        behindEachThirdTime();
        eatenAheadOfItToo();
        howMuchAllCarryThen();
        restByTwoToThe31();
        roundedDown();
        asTheyWouldBe();
        imageKeepsHunger();
        imageKeepsWhoLives();
        imageKeepsCarriedAndPaid();
        imageKeepsLoaves();
        imageKeepsEaten();
        imageKeepsWinters();
        imageKeepsSaid();
        imageKeepsNothingElse();
        end("seeds and images are as the document tells them");
    }

    private static int seedBehind(int seed, int draws) {
        long then = seed;
        for (int i = 0; i < draws; i++) {
            then = (1103515245L * then + 12345L) % 2147483648L;
        }
        return (int) then;
    }

    private static void soManyTimes() {
        says("so many times one by a DRAW");
        SinEaters x = read("p0,p0;99");
        for (int times = 1; times <= 60; times++) {
            due("two draws each of " + times, x.winters(times, 5, 2), seedBehind(5, 2 * times));
        }
    }

    private static void oneByADraw() {
        says("one by a DRAW of how many EATERS there are");
        for (int[] one : DRAWN) {
            for (int eater = 0; eater < 4; eater++) {
                StringBuilder text = new StringBuilder();
                for (int i = 0; i < 4; i++) {
                    text.append(i == 0 ? "" : ",").append(i == eater ? "p0" : "r0");
                }
                SinEaters x = read(text.append(";1020304050").toString());
                due("seed " + one[0] + ", whether it is " + eater, x.winters(1, one[0], 0), eater == one[1] ? 1 : 0);
            }
        }
        SinEaters dead = read("p0,p0;1122");
        dead.die(0);
        due("the dead are drawn, too: it was 0", dead.winters(1, 0, 0), 0);
        SinEaters other = read("p0,p0;1122");
        other.die(1);
        due("and if it was not", other.winters(1, 0, 0), 1);
    }

    private static void theLoafByADraw() {
        says("comes to the LOAF by a DRAW of how many there are");
        for (int[] one : DRAWN) {
            SinEaters x = read("p0,p0,p0,p0;1020304050");
            due("seed " + one[0], x.winters(1, one[0], 1), one[2] + 1);
            x.eat(0, one[2]);
            due("it is drawn, though it was eaten", x.winters(1, one[0], 0), 1);
        }
        SinEaters dead = read("p0,p0,p0,r0;10203040");
        due("the 1st of four", dead.winters(1, 0, 1), 1);
        dead.die(3);
        due("the 4th of five", dead.winters(1, 0, 1), 4);
        due("one of one", read("p0,p0;70").winters(1, 3, 1), 7);
    }

    private static void ifHeWould() {
        says("EATS it, if he would");
        due("not a parson", read("r9,r9;0000").winters(60, 1, 0), 0);
        due("not above his hunger", read("e0,e0;10").winters(3, 1, 0), 0);
        due("but behind a winter", read("e0,e0;10").winters(4, 1, 0), 1);
        due("at his hunger", read("e3,e3;30").winters(1, 1, 0), 1);
        due("nobody twice", read("p0,p0;10").winters(60, 1, 1), 1);
        SinEaters dead = read("p0,p0;10");
        dead.die(0);
        dead.die(1);
        due("nobody dead", dead.winters(60, 1, 0), 0);
    }

    private static void behindEachThirdTime() {
        says("behind each 3rd time (the last one, too) there is a WINTER");
        SinEaters carries = read("t0,r0;33");
        carries.eat(0, 0);
        due("behind the 2nd there is none", carries.winters(2, 1, 1), 6);
        due("behind the 3rd, the last", carries.winters(3, 1, 1), 0);
        due("it stays so", carries.winters(4, 1, 1), 0);
        due("not in one winter", read("e0,e0;40").winters(6, 1, 0), 0);
        due("behind the 6th there is one", read("e0,e0;40").winters(7, 1, 0), 1);
        due("not in two", read("e0,e0;70").winters(9, 1, 0), 0);
        due("behind the 9th there is one, up to 9", read("e0,e0;90").winters(10, 1, 0), 1);
    }

    private static void eatenAheadOfItToo() {
        says("how many LOAVES were EATEN in the end (those ahead of it, too)");
        SinEaters x = read("p0,r0;1020");
        x.eat(0, 0);
        due("one ahead, and none more", x.winters(1, 0, 0), 1);
        due("one ahead, and one more", x.winters(1, 2, 0), 2);
        SinEaters all = read("p0,p0;102030");
        all.eat(0, 0);
        all.eat(1, 1);
        all.eat(1, 2);
        due("all ahead", all.winters(1, 7, 0), 3);
        due("all in the end", read("p0,p0;1020").winters(60, 7, 0), 2);
    }

    private static void howMuchAllCarryThen() {
        says("how much all carry then");
        SinEaters x = read("p0,p0;9911");
        x.eat(0, 0);
        due("what was carried ahead, too", x.winters(60, 7, 1), 20);
        due("a beggar's half", read("b9,b9;98").winters(1, 7, 1), 8);
        due("nothing", read("r9,r9;98").winters(1, 7, 1), 0);
    }

    private static void restByTwoToThe31() {
        says("1103515245 times it and 12345, its rest by 2 to the 31");
        SinEaters x = read("r0,r0;00");
        due("from 0", x.winters(1, 0, 2), 1406932606);
        due("from 1", x.winters(1, 1, 2), 377401575);
        due("from the greatest", x.winters(1, 2147483647, 2), 288979989);
        due("from the one below", x.winters(1, 2147483646, 2), seedBehind(2147483646, 2));
        due("sixty times from the greatest", x.winters(60, 2147483647, 2), seedBehind(2147483647, 120));
        due("never below 0", x.winters(60, 99, 2) >= 0 ? 1 : 0, 1);
    }

    private static void roundedDown() {
        says("then that by 65536 (rounded down), its rest");
        due("25515 and 1735 over: the first of five", read("p0,p0,p0,p0;1020304050").winters(1, 6, 1), 1);
        due("25016 and 592 over: eater 0", read("p0,r0,r0,r0;11").winters(1, 19, 0), 1);
        due("31376: eater 0", read("p0,r0,r0,r0;11").winters(1, 33, 0), 1);
        due("20472 and 61966 over: eater 0", read("p0,r0,r0,r0;11").winters(1, 9, 0), 1);
        due("below 65536 it is 0", read("p0,r0,r0,r0;11").winters(1, 0, 0), 1);
    }

    private static void asTheyWouldBe() {
        says("WINTERS by a SEED, as they would be");
        SinEaters x = read("p0,t9,e5,b7;1223344556");
        x.eat(1, 0);
        x.say(3, 9, true);
        x.image();
        long before = x.digest();
        int first = x.winters(60, 4, 1);
        due("the same again", x.winters(60, 4, 1), first);
        due("nothing has changed", x.digest() == before ? 1 : 0, 1);
        due("nor the image", x.restore(), 1);
        due("nor behind it", x.digest() == before ? 1 : 0, 1);
    }

    private static void imageKeepsHunger() {
        says("An IMAGE keeps HUNGER");
        SinEaters x = read("e9,p4;0000");
        x.eat(0, 0);
        x.image();
        x.eat(0, 1);
        x.winter();
        x.restore();
        dueRow("HUNGER", row(x.about(0, 1), x.about(1, 1)), 7, 4);
    }

    private static void imageKeepsWhoLives() {
        says("who lives");
        SinEaters x = read("e9,p4,b1;00");
        x.die(1);
        x.image();
        x.die(0);
        x.die(2);
        x.restore();
        dueRow("who lives", row(x.about(0, 2), x.about(1, 2), x.about(2, 2)), 1, 0, 1);
        due("the dead stays dead", x.die(1), STATE);
        due("who lives again dies again", x.die(2), 2);
    }

    private static void imageKeepsCarriedAndPaid() {
        says("what each carries, was PAID");
        SinEaters x = read("p9,t4;123456");
        x.eat(0, 0);
        x.eat(1, 1);
        x.image();
        x.eat(0, 2);
        x.winter();
        x.restore();
        dueRow("eater 0", row(x.about(0, 3), x.about(0, 4)), 3, 1);
        dueRow("eater 1", row(x.about(1, 3), x.about(1, 4)), 7, 3);
        dueRow("all", row(x.count(4), x.count(5)), 10, 4);
    }

    private static void imageKeepsLoaves() {
        says("how many LOAVES there are");
        SinEaters x = read("p9,t4,e1,e1;9999999999");
        x.eat(0, 0);
        x.die(0);
        x.image();
        x.eat(1, 5);
        x.die(1);
        x.die(2);
        due("eight", x.die(3), FULL);
        x.restore();
        due("six", x.count(2), 6);
        due("the 7th is none any more", x.loaf(6, 0), UNKNOWN);
        dueRow("the 6th is as it was", loafAll(x, 5), 9, 9, 0, 1023, 13);
        due("another one is the 7th", x.die(3), 6);
        dueRow("who carried nothing", loafAll(x, 6), 0, 0, 0, 1023, 4);
        x.restore();
        due("nothing is said of the 7th", x.say(64, 0, true), OUTSIDE);
    }

    private static void imageKeepsEaten() {
        says("which were EATEN");
        SinEaters x = read("p9,t4;112233");
        x.eat(1, 1);
        x.image();
        x.eat(0, 0);
        x.halve(0, 1, 2);
        due("restore()", x.restore(), 1);
        dueRow("which", row(x.loaf(0, 2), x.loaf(1, 2), x.loaf(2, 2)), 0, 1, 0);
        due("it can be eaten again", x.eat(0, 0), 2);
    }

    private static void imageKeepsWinters() {
        says("IMAGE keeps .. WINTERS");
        SinEaters x = read("p9,t4;11");
        x.winter();
        x.winter();
        x.image();
        x.winter();
        x.restore();
        due("count(6)", x.count(6), 2);
    }

    private static void imageKeepsSaid() {
        says("what is SAID");
        SinEaters x = read("p9,t4;1133");
        x.say(1, 5, true);
        x.say(3, 13, false);
        x.image();
        int first = x.loaf(0, 3);
        x.forget();
        x.say(2, 4, false);
        x.say(2, 9, true);
        x.say(2, 9, true);
        x.restore();
        due("count(7)", x.count(7), 2);
        due("BAKED", x.loaf(0, 3), first);
        due("5 and 6", first, 0b1100000);
        due("the third", x.say(0, 0, false), 3);
    }

    private static void imageKeepsNothingElse() {
        says("An IMAGE keeps HUNGER, .. what is SAID: no letters, nor how often was read or spread");
        SinEaters x = read("p9,t4;11");
        write(x, "e1").image();
        write(x, ",e2");
        x.spread(0);
        x.restore();
        dueRow("letters, read, done", row(x.count(8), x.count(9), x.count(10)), 5, 1, 1);
        due("the page goes on", x.letter(';'), 6);
    }
}
