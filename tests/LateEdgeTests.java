/** Promises 13 to 20, their own bounds and refusals, and the refusals of all: a test for each such sentence. */
public final class LateEdgeTests extends Checks {
    public static void main(String[] args) {
        spreadWhat();
        spreadNone();
        spreadState();
        spreadTwelveTimes();
        spreadSuchAsToldNone();
        spreadCountsOn();
        spreadEachByItself();
        sayTellsHowMuch();
        sayLoaves();
        sayMuch();
        sayState();
        sayFull();
        forgetTellsHowMuch();
        wintersWhat();
        wintersOutside();
        wintersState();
        imageTheLatest();
        imageState();
        restoreTellsHowManyThen();
        restoreNoneKept();
        restoreBehindAValley();
        countWhat();
        countOutside();
        digestOfAll();
        digestWraps();
        refusalsTheFirstAsTold();
        refusalsChangeNothing();
        theLastOfAllCalls();
        end("the bounds and refusals of promises 13 to 20 are as the document tells them");
    }

    private static void spreadWhat() {
        says("what = 0 how much, 10 to 17 who EATS LOAF 0 to 7");
        SinEaters x = read("p0,p0,p0,p0;9910101010");
        x.eat(0, 0);
        x.die(0);
        x.die(1);
        x.die(2);
        dueRow("all eight by one", spreadAll(x), 22, NONE, 3, 3, 3, 3, 3, 3, 3);
        for (int what : new int[] {LEAST, -1, 1, 2, 9, 18, 19, GREATEST}) {
            due("spread(" + what + ")", x.spread(what), OUTSIDE);
        }
        due("OUTSIDE is not done", x.count(10), 9);
    }

    private static void spreadNone() {
        says("NONE: it was EATEN, or there is none such");
        SinEaters x = read("p0,p0;1122");
        x.eat(1, 0);
        dueRow("0 was eaten, 2 to 7 are none", spreadAll(x), 4, NONE, 0, NONE, NONE, NONE, NONE, NONE, NONE);
        says("NONE: there is none");
        SinEaters none = read("p0,e0;1000");
        none.die(0);
        dueRow("nobody can", spreadAll(none), -1, -1, -1, -1, -1, -1, -1, -1, -1);
    }

    private static void spreadState() {
        says("spread: STATE: no VALLEY");
        SinEaters x = new SinEaters();
        dueRow("none", row(x.spread(0), x.spread(10), x.spread(17)), STATE, STATE, STATE);
        dueRow("OUTSIDE comes first", row(x.spread(1), x.spread(9), x.spread(18)), OUTSIDE, OUTSIDE, OUTSIDE);
        due("count(10)", x.count(10), 0);
    }

    private static void spreadTwelveTimes() {
        says("or spread() was done 12 times ever");
        SinEaters x = read("p0,p0;11");
        for (int done = 1; done <= 12; done++) {
            due("spread(0)", x.spread(done % 2 == 0 ? 0 : 10), done % 2 == 0 ? 2 : 0);
            due("count(10)", x.count(10), done);
        }
        dueRow("the 13th", row(x.spread(0), x.spread(10), x.spread(17)), STATE, STATE, STATE);
        due("OUTSIDE comes first", x.spread(18), OUTSIDE);
        due("count(10)", x.count(10), 12);
    }

    private static void spreadSuchAsToldNone() {
        says("also such as told NONE");
        SinEaters x = read("r0,r0;11");
        for (int done = 1; done <= 12; done++) {
            due("spread()", x.spread(done == 1 ? 0 : 9 + done % 8 + 1), NONE);
            due("count(10)", x.count(10), done);
        }
        due("the 13th", x.spread(0), STATE);
    }

    private static void spreadCountsOn() {
        says("it counts on, whatever is read or restored");
        SinEaters x = read("p0,p0;11");
        x.image();
        for (int done = 1; done <= 5; done++) {
            x.spread(0);
        }
        x.restore();
        due("restored", x.count(10), 5);
        write(x, "p0,p0;22").valley();
        due("read", x.count(10), 5);
        for (int done = 6; done <= 12; done++) {
            due("spread(0)", x.spread(0), 4);
        }
        x.image();
        x.restore();
        due("the 13th, restored", x.spread(0), STATE);
        write(x, "p0,p0;22").valley();
        due("the 13th, read", x.spread(0), STATE);
        due("count(10)", x.count(10), 12);
    }

    private static void spreadEachByItself() {
        says("HUNGER as it is then");
        SinEaters x = read("e9,r0;1090");
        due("1 ahead of 9", x.spread(0), NONE);
        due("who eats the first", x.spread(10), NONE);
        x.eat(0, 1);
        due("9 was eaten", x.spread(0), 10);
        due("by him", x.spread(10), 0);
        write(x, "p0,r0;99").valley();
        due("more than before", x.spread(0), 18);
        x.die(0);
        due("nobody", x.spread(0), NONE);
        write(x, "r0,p0;1122").valley();
        dueRow("who", row(x.spread(10), x.spread(11), x.spread(12)), 1, 1, NONE);
    }

    private static void sayTellsHowMuch() {
        says("It is SAID: how much is");
        SinEaters x = read("p0,p0;11");
        for (int many = 1; many <= 6; many++) {
            due("say()", x.say(1, 0, many % 2 == 0), many);
            due("count(7)", x.count(7), many);
        }
    }

    private static void sayLoaves() {
        says("OUTSIDE: loaves (bits of LOAVES)");
        for (int loaves = 1; loaves <= 5; loaves++) {
            SinEaters x = read("p0,p0,p0,p0;" + "1111111111".substring(0, 2 * loaves));
            due("none", x.say(0, 0, true), 1);
            due("all", x.say((1 << loaves) - 1, 0, true), 2);
            due("one more", x.say(1 << loaves, 0, true), OUTSIDE);
            due("below 0", x.say(-1, 0, true), OUTSIDE);
            due("least", x.say(LEAST, 0, true), OUTSIDE);
            due("greatest", x.say(GREATEST, 0, true), OUTSIDE);
            x.die(0);
            due("of the dead, too", x.say(1 << loaves, 0, true), 3);
        }
        SinEaters eight = read("p0,p0,p0;1111111111");
        eight.die(0);
        eight.die(1);
        eight.die(2);
        due("all eight", eight.say(255, 0, true), 1);
        due("a ninth", eight.say(256, 0, true), OUTSIDE);
        eight.eat(0, 0);
        due("eaten or not", eight.say(1, 0, true), 2);
    }

    private static void sayMuch() {
        says("OUTSIDE: much (0 to 99)");
        SinEaters x = read("p0,p0;11");
        dueRow("0 and 99", row(x.say(1, 0, true), x.say(1, 99, false)), 1, 2);
        for (int much : new int[] {LEAST, -1, 100, GREATEST}) {
            due("much " + much, x.say(1, much, true), OUTSIDE);
        }
        due("count(7)", x.count(7), 2);
    }

    private static void sayState() {
        says("say: STATE: no VALLEY");
        SinEaters x = new SinEaters();
        due("no loaf", x.say(0, 99, false), STATE);
        due("OUTSIDE comes first", x.say(0, 100, false), OUTSIDE);
        due("OUTSIDE comes first", x.say(-1, 0, false), OUTSIDE);
        due("count(7)", x.count(7), 0);
    }

    private static void sayFull() {
        says("say: FULL");
        SinEaters x = read("p0,p0;11");
        for (int many = 1; many <= 6; many++) {
            x.say(1, 0, true);
        }
        due("the 7th", x.say(1, 0, true), FULL);
        dueRow("OUTSIDE comes first", row(x.say(2, 0, true), x.say(-1, 0, true), x.say(1, 100, true),
            x.say(1, -1, true)), OUTSIDE, OUTSIDE, OUTSIDE, OUTSIDE);
        due("count(7)", x.count(7), 6);
    }

    private static void forgetTellsHowMuch() {
        says("Nothing is SAID any more: how much was");
        due("no valley", new SinEaters().forget(), 0);
        SinEaters x = read("p0,p0;11");
        due("nothing", x.forget(), 0);
        for (int many = 1; many <= 6; many++) {
            x.say(1, 50, true);
        }
        due("six", x.forget(), 6);
        due("count(7)", x.count(7), 0);
        due("BAKED", x.loaf(0, 3), 1023);
        due("again", x.forget(), 0);
    }

    private static void wintersWhat() {
        says("what = 0 how many LOAVES, 1 how much all carry, 2 the SEED then");
        SinEaters x = read("p0,p0;99");
        dueRow("once", row(x.winters(1, 0, 0), x.winters(1, 0, 1), x.winters(1, 0, 2)), 1, 18, 1406932606);
    }

    private static void wintersOutside() {
        says("OUTSIDE: times (1 to 60), seed (0 at least), what");
        SinEaters x = read("p0,p0;99");
        for (int times : new int[] {LEAST, -1, 0, 61, GREATEST}) {
            due("times " + times, x.winters(times, 0, 0), OUTSIDE);
        }
        dueRow("1 and 60", row(x.winters(1, 0, 0), x.winters(60, 0, 0)), 1, 1);
        for (int seed : new int[] {LEAST, -2, -1}) {
            due("seed " + seed, x.winters(1, seed, 0), OUTSIDE);
        }
        dueRow("0 and the greatest", row(x.winters(1, 0, 2), x.winters(1, GREATEST, 2)), 1406932606, 288979989);
        for (int what : new int[] {LEAST, -1, 3, GREATEST}) {
            due("what " + what, x.winters(1, 0, what), OUTSIDE);
        }
    }

    private static void wintersState() {
        says("winters: STATE: no VALLEY");
        SinEaters x = new SinEaters();
        dueRow("0, 1, 2", row(x.winters(1, 0, 0), x.winters(60, 5, 1), x.winters(1, GREATEST, 2)),
            STATE, STATE, STATE);
        dueRow("OUTSIDE comes first", row(x.winters(0, 0, 0), x.winters(61, 0, 0), x.winters(1, -1, 0),
            x.winters(1, 0, 3), x.winters(1, 0, -1)), OUTSIDE, OUTSIDE, OUTSIDE, OUTSIDE, OUTSIDE);
    }

    private static void imageTheLatest() {
        says("An IMAGE is kept (one; the latest): how many LOAVES were EATEN");
        SinEaters x = read("p0,p0;1122");
        due("none", x.image(), 0);
        x.eat(0, 0);
        due("one", x.image(), 1);
        x.eat(0, 1);
        due("back to one", x.restore(), 1);
        x.eat(1, 1);
        due("two", x.image(), 2);
        due("two", x.restore(), 2);
    }

    private static void imageState() {
        says("image: STATE: no VALLEY");
        SinEaters x = new SinEaters();
        due("image()", x.image(), STATE);
        due("none was kept", x.restore(), STATE);
        write(x, "p0,p0;11").valley();
        due("nor ahead of the valley", x.restore(), STATE);
    }

    private static void restoreTellsHowManyThen() {
        says("It goes on from the IMAGE: how many LOAVES were EATEN (as it was kept)");
        SinEaters x = read("p0,p0;112233");
        x.eat(0, 0);
        x.image();
        x.eat(0, 1);
        x.eat(0, 2);
        due("one, not three", x.restore(), 1);
        due("it goes on", x.eat(1, 2), 6);
        due("it stays kept", x.restore(), 1);
        due("eater 1 did not eat", x.about(1, 3), 0);
    }

    private static void restoreNoneKept() {
        says("STATE: none was kept");
        SinEaters x = read("p0,p0;11");
        long before = x.digest();
        due("restore()", x.restore(), STATE);
        due("it changes nothing", x.digest() == before ? 1 : 0, 1);
        due("no valley", new SinEaters().restore(), STATE);
    }

    private static void restoreBehindAValley() {
        says("or a VALLEY was read since (of the same text, too)");
        SinEaters x = read("p0,p0;11");
        x.image();
        write(x, "p0,p0;11").valley();
        due("of the same text", x.restore(), STATE);
        due("a new one", x.image(), 0);
        due("is kept", x.restore(), 0);
        write(x, "p1,p1;22").valley();
        due("of another one", x.restore(), STATE);
        due("the valley is the new one", x.loaf(0, 0), 2);
    }

    private static void countWhat() {
        says("How many: 0 EATERS, 1 that live, 2 LOAVES, 3 that were EATEN, 4 how much all carry, 5 groats");
        SinEaters x = read("p9,t9,e9,b9;9999999999");
        dueRow("at first", countAll(x), 4, 4, 5, 0, 0, 0, 0, 0, 0, 1, 0);
        x.eat(0, 0);
        x.eat(1, 1);
        x.halve(2, 3, 2);
        dueRow("eaten", countAll(x), 4, 4, 5, 3, 18 + 18 + 9 + 4, 27, 0, 0, 0, 1, 0);
        x.winter();
        x.die(0);
        x.say(63, 99, true);
        x.spread(0);
        x.letter('e');
        dueRow("all of it", countAll(x), 4, 3, 6, 3, 9 + 4, 27, 1, 1, 1, 1, 1);
        x.valley();
        due("a refused one was not read", x.count(9), 1);
    }

    private static void countOutside() {
        says("count: OUTSIDE");
        for (int what : new int[] {LEAST, -1, 11, GREATEST}) {
            due("count(" + what + ")", new SinEaters().count(what), OUTSIDE);
            due("count(" + what + ")", read("p9,p9;11").count(what), OUTSIDE);
        }
        due("0 is none without a valley", new SinEaters().count(0), 0);
    }

    private static void digestOfAll() {
        says("of each EATER what about() tells for 0 to 7; of each LOAF what loaf() tells for 0 to 4; letters");
        SinEaters x = read("p9,t9,e5,b9;9999");
        x.eat(0, 0);
        x.die(0);
        x.say(4, 11, true);
        x.spread(0);
        write(x, " ~");
        due("digest()", x.digest(), digestOf(
            1, 7, 0, 0, 9, 0, 0, 0,
            4, 9, 1, 0, 0, 6, 18, 6,
            0, 5, 1, 0, 0, 0, 0, 0,
            3, 9, 1, 0, 0, 6, 9, 2,
            9, 9, 1, 1023, 13,
            9, 9, 0, 1023, 13,
            9, 9, 0, 0b1111111000, 14,
            ' ', '~',
            4, 3, 3, 1, 0, 9, 0, 1, 2, 1, 1));
    }

    private static void digestWraps() {
        says("as longs, wrapping");
        SinEaters none = new SinEaters();
        long h = 1019;
        for (int i = 0; i < 11; i++) {
            h *= 31;
        }
        due("eleven zeros wrap", none.digest(), h);
        SinEaters less = read("r0,r0;11");
        less.say(0, 0, true);
        due("a NONE is -1", less.digest(), digestOf(2, 0, 1, 0, 0, 0, 0, 0, 2, 0, 1, 0, 0, 0, 0, 0,
            1, 1, 0, 0, -1, 2, 2, 1, 0, 0, 0, 0, 1, 0, 1, 0));
    }

    private static void refusalsTheFirstAsTold() {
        says("Refusals, of several the first as told by each call");
        SinEaters none = new SinEaters();
        dueRow("no valley, and outside", row(none.spread(9), none.say(1, 100, true), none.winters(0, 0, 0)),
            OUTSIDE, OUTSIDE, OUTSIDE);
        dueRow("no valley, and a number", row(none.about(0, 9), none.as(0, 9), none.loaf(0, 9), none.eat(0, 0),
            none.halve(0, 1, 0), none.die(0)), UNKNOWN, UNKNOWN, UNKNOWN, UNKNOWN, UNKNOWN, UNKNOWN);
        SinEaters x = read("r0,r0,r0,r0;9999999999");
        write(x, "eeeeeeeeeeeeeeeeeeeeeeee");
        due("OUTSIDE ahead of FULL", x.letter(200), OUTSIDE);
        x.die(0);
        x.die(1);
        x.die(2);
        dueRow("UNKNOWN, STATE, FULL", row(x.die(4), x.die(0), x.die(3)), UNKNOWN, STATE, FULL);
        dueRow("UNKNOWN ahead of STATE", row(x.eat(4, 0), x.eat(3, 8), x.halve(3, 3, 0), x.halve(0, 1, 8)),
            UNKNOWN, UNKNOWN, UNKNOWN, UNKNOWN);
        for (int many = 1; many <= 6; many++) {
            x.say(0, 0, true);
        }
        dueRow("OUTSIDE ahead of FULL", row(x.say(256, 0, true), x.say(0, 100, true), x.say(0, 0, true)),
            OUTSIDE, OUTSIDE, FULL);
        for (int done = 1; done <= 12; done++) {
            x.spread(0);
        }
        dueRow("OUTSIDE ahead of STATE", row(x.spread(18), x.spread(17)), OUTSIDE, STATE);
    }

    private static void refusalsChangeNothing() {
        says("they change nothing");
        SinEaters x = read("p9,t9,e5,r9;9999112200");
        x.eat(0, 0);
        x.die(1);
        x.say(5, 20, true);
        x.image();
        x.winter();
        write(x, "e1,");
        long before = x.digest();
        dueRow("letter, valley", row(x.letter(31), x.letter(127), x.valley()), OUTSIDE, OUTSIDE, STATE);
        dueRow("about, as, loaf", row(x.about(4, 0), x.about(0, 8), x.as(4, 0), x.as(0, 5), x.loaf(6, 0),
            x.loaf(0, 5)), UNKNOWN, OUTSIDE, UNKNOWN, OUTSIDE, UNKNOWN, OUTSIDE);
        dueRow("eat", row(x.eat(4, 1), x.eat(0, 6), x.eat(1, 1), x.eat(3, 1), x.eat(2, 1), x.eat(0, 0)),
            UNKNOWN, UNKNOWN, STATE, STATE, STATE, STATE);
        dueRow("halve", row(x.halve(0, 0, 2), x.halve(0, 4, 2), x.halve(4, 0, 2), x.halve(0, 2, 6),
            x.halve(0, 1, 2), x.halve(0, 3, 2), x.halve(0, 2, 0)),
            UNKNOWN, UNKNOWN, UNKNOWN, UNKNOWN, STATE, STATE, STATE);
        dueRow("die, spread, say", row(x.die(4), x.die(1), x.spread(1), x.say(64, 0, true), x.say(1, 100, true)),
            UNKNOWN, STATE, OUTSIDE, OUTSIDE, OUTSIDE);
        dueRow("winters, count", row(x.winters(0, 1, 0), x.winters(1, -1, 0), x.winters(1, 1, 3), x.count(11)),
            OUTSIDE, OUTSIDE, OUTSIDE, OUTSIDE);
        due("nothing", x.digest() == before ? 1 : 0, 1);
        due("nor the image", x.restore(), 1);
        due("which is ahead of the winter", x.count(6), 0);
    }

    private static void theLastOfAllCalls() {
        says("An object is used for at most 512 calls");
        SinEaters x = read("e5,b9,t0;526940");
        long fresh = x.digest();
        for (int call = 18; call < 512; call++) {
            due("restore() without an image", x.restore(), STATE);
        }
        due("the 512th", x.digest() == fresh ? 1 : 0, 1);
    }
}
