/** At least one test for each promise of the document: ordinary inputs, the edges it names, wrong inputs. */
public final class PromiseTests extends Checks {
    public static void main(String[] args) {
        newObject();
        letter();
        blank();
        fault();
        valley();
        about();
        fed();
        as();
        loaf();
        baked();
        ask();
        eat();
        halve();
        winter();
        die();
        spread();
        spreadTwelveTimes();
        say();
        forget();
        winters();
        draws();
        image();
        restore();
        count();
        digest();
        end("all promises are kept");
    }

    private static void newObject() {
        says("Promise 1");
        SinEaters x = new SinEaters();
        dueRow("count of a new object", countAll(x), 0, 0, 0, 0, 0, 0, 0, 0, 0, 0, 0);
        due("winter()", x.winter(), STATE);
        due("about(0, 0)", x.about(0, 0), UNKNOWN);
        due("loaf(0, 0)", x.loaf(0, 0), UNKNOWN);
        due("as(0, 0)", x.as(0, 0), UNKNOWN);
        due("eat(0, 0)", x.eat(0, 0), UNKNOWN);
        due("halve(0, 1, 0)", x.halve(0, 1, 0), UNKNOWN);
        due("die(0)", x.die(0), UNKNOWN);
        due("two objects have nothing together", read("e1,e1;11").count(0) + new SinEaters().count(0), 2);
    }

    private static void letter() {
        says("Promise 2");
        SinEaters x = new SinEaters();
        due("letter(31)", x.letter(31), OUTSIDE);
        due("letter(127)", x.letter(127), OUTSIDE);
        due("letter(least)", x.letter(Integer.MIN_VALUE), OUTSIDE);
        due("letter(greatest)", x.letter(Integer.MAX_VALUE), OUTSIDE);
        due("letter(65637), which is 101 as a char", x.letter(65637), OUTSIDE);
        due("nothing was written", x.count(8), 0);
        due("letter(32)", x.letter(32), 1);
        due("letter(126)", x.letter(126), 2);
        for (int i = 3; i <= 24; i++) {
            due("letter " + i, x.letter('e'), i);
        }
        due("letter 25", x.letter('e'), FULL);
        due("letter 25, no letter", x.letter(0), OUTSIDE);
        due("count(8)", x.count(8), 24);
    }

    private static void blank() {
        says("Promise 3");
        SinEaters x = new SinEaters();
        due("blank() of an empty page", x.blank(), 0);
        write(x, "zzz");
        due("blank()", x.blank(), 3);
        due("blank() again", x.blank(), 0);
        due("a valley behind it", write(x, "e1,p2;34").valley(), 1);
        write(x, "e1");
        x.blank();
        due("the valley stays", x.count(0), 2);
        write(x, "eeeeeeeeeeeeeeeeeeeeeeeee");
        due("blank() of a full page", x.blank(), 24);
        due("letter behind it", x.letter('e'), 1);
    }

    private static void fault() {
        says("Promise 4");
        due("empty", faultOf(""), 0);
        String whole = "e0,p1,r2,b3;0123456789";
        for (int length = 0; length <= whole.length(); length++) {
            due("fault of the first " + length, faultOf(whole.substring(0, length)), length);
        }
        due("a sixth loaf", faultOf(whole + "00"), 22);
        due("a fifth eater", faultOf("e0,p1,r2,b3,t4;11"), 11);
        due("one eater", faultOf("e0;11"), 2);
        due("two eaters", faultOf("e0,t1;11"), 8);
        due("three eaters", faultOf("e0,t1,b9;11"), 11);
        due("no kind", faultOf("x0"), 0);
        due("a large letter", faultOf("E0"), 0);
        due("a digit for a kind", faultOf("00"), 0);
        due("no hunger", faultOf("e,"), 1);
        due("two digits of hunger", faultOf("e10"), 2);
        due("hunger below 0", faultOf("e/"), 1);
        due("hunger above 9", faultOf("e:"), 1);
        due("no eater behind a comma", faultOf("e1,;"), 3);
        due("a comma ahead", faultOf(",e1"), 0);
        due("a comma between loaves", faultOf("e1,e1;11,22"), 8);
        due("a comma in a loaf", faultOf("e1,e1;1,"), 7);
        due("a letter as loaf", faultOf("e1,e1;e1"), 6);
        due("a second semicolon", faultOf("e1,e1;11;"), 8);
        due("a blank at the end", faultOf("e1,e1;11 "), 8);
        due("the first of two faults", faultOf("e1;e1,11"), 2);
        due("a semicolon ahead of all", faultOf(";e1,e1;11"), 0);
        SinEaters x = write(new SinEaters(), "e1x");
        x.fault();
        due("fault changes nothing", x.count(8), 3);
    }

    private static void valley() {
        says("Promise 5");
        due("one loaf", valleyOf("e1,e2;34"), 1);
        due("five loaves", valleyOf("e1,p2,r3,b4;0011223344"), 5);
        due("empty page", valleyOf(""), STATE);
        due("no loaf", valleyOf("e1,e2;"), STATE);
        due("half a loaf", valleyOf("e1,e2;3"), STATE);
        due("a loaf and a half", valleyOf("e1,e2;345"), STATE);
        due("five and a half", valleyOf("e1,e2;34567890123"), STATE);
        due("six loaves", valleyOf("e1,e2;345678901234"), STATE);
        due("one eater", valleyOf("e1;34"), STATE);
        due("five eaters", valleyOf("e1,e1,e1,e1,e1;34"), STATE);
        due("eaters alone", valleyOf("e1,e2"), STATE);
        anotherValley();
    }

    private static void anotherValley() {
        SinEaters x = read("t5,e6;1234");
        x.eat(0, 0);
        x.winter();
        x.eat(0, 1);
        x.die(1);
        x.say(1, 2, true);
        x.image();
        x.spread(0);
        write(x, "e1,b2,r3;56789");
        due("refused", x.valley(), STATE);
        due("the page stays", x.count(8), 14);
        due("the old one stays", x.count(2), 3);
        x.letter('9');
        due("another one", x.valley(), 3);
        dueRow("all that was is gone", countAll(x), 3, 3, 3, 0, 0, 0, 0, 0, 0, 2, 1);
        dueRow("eater 1", aboutAll(x, 1), 3, 2, 1, 0, 0, 0, 0, 0);
        due("loaf 2 told", x.loaf(2, 0), 9);
        due("loaf 2 hidden", x.loaf(2, 1), 9);
        due("the image is gone", x.restore(), STATE);
    }

    private static void about() {
        says("Promise 6");
        SinEaters x = read("e4,p0,r9,b7;425171");
        dueRow("an eater", aboutAll(x, 0), 0, 4, 1, 0, 0, 1, 4, 1);
        dueRow("a pauper", aboutAll(x, 1), 1, 0, 1, 0, 0, 7, 16, 7);
        dueRow("a parson", aboutAll(x, 2), 2, 9, 1, 0, 0, 0, 0, 0);
        dueRow("a beggar", aboutAll(x, 3), 3, 7, 1, 0, 0, 7, 9, 3);
        x.eat(3, 1);
        dueRow("a beggar who ate", aboutAll(x, 3), 3, 5, 1, 3, 5, 1, 4, 1);
        x.die(3);
        dueRow("a beggar who died", aboutAll(x, 3), 3, 5, 0, 0, 5, 0, 0, 0);
        due("about(-1, 0)", x.about(-1, 0), UNKNOWN);
        due("about(4, 0)", x.about(4, 0), UNKNOWN);
        due("about(4, 9)", x.about(4, 9), UNKNOWN);
        due("about(least, 0)", x.about(Integer.MIN_VALUE, 0), UNKNOWN);
        due("about(0, -1)", x.about(0, -1), OUTSIDE);
        due("about(0, 8)", x.about(0, 8), OUTSIDE);
        due("about(0, greatest)", x.about(0, Integer.MAX_VALUE), OUTSIDE);
        due("about(3, 0) of two", read("e1,t2;11").about(3, 0), UNKNOWN);
        due("a tramp's kind", read("e1,t2;11").about(1, 0), 4);
    }

    private static void fed() {
        says("Promise 6");
        SinEaters tired = read("e5,t0;5040302010");
        due("5, then 3: 5 and 3 fit behind each other", tired.about(0, 6), 9);
        due("by loaves 0, 2 and 4", tired.about(0, 7), 21);
        SinEaters like = read("e3,e3;3021");
        due("3 alone pays as much as nothing else", like.about(0, 6), 3);
        due("so loaf 0 alone", like.about(0, 7), 1);
        SinEaters order = read("e3,e3;1030");
        due("not the greater one behind the less", order.about(0, 7), 2);
        SinEaters least = read("e2,e2;202020");
        due("of like ones the least bits", least.about(0, 7), 1);
        SinEaters nothing = read("e9,p9;0909");
        due("none pays", nothing.about(0, 6), 0);
        due("none pays, so no bits", nothing.about(1, 7), 0);
        SinEaters between = read("p0,e9;1100220033");
        due("no loaf that does not pay", between.about(0, 7), 21);
        between.eat(1, 2);
        due("nor one that was eaten", between.about(0, 7), 17);
        due("the floor of hunger is 0", read("e1,e1;1000000000").about(0, 6), 1);
    }

    private static void as() {
        says("Promise 7");
        SinEaters one = read("e1,p1,r1,b1;11");
        int[][] want = {{0, NONE, NONE, NONE, NONE}, {1, 1, NONE, NONE, NONE},
            {2, NONE, 2, NONE, NONE}, {3, NONE, NONE, 3, NONE}};
        for (int eater = 0; eater < 4; eater++) {
            for (int kind = 0; kind < 5; kind++) {
                due("as(" + eater + ", " + kind + ")", one.as(eater, kind), want[eater][kind]);
            }
        }
        SinEaters tramp = read("e1,t1;11");
        dueRow("a tramp", row(tramp.as(1, 0), tramp.as(1, 1), tramp.as(1, 2), tramp.as(1, 3), tramp.as(1, 4)),
            1, 1, NONE, NONE, 1);
        tramp.die(1);
        due("a dead tramp", tramp.as(1, 1), 1);
        due("as(2, 0)", tramp.as(2, 0), UNKNOWN);
        due("as(-1, 0)", tramp.as(-1, 0), UNKNOWN);
        due("as(2, 5)", tramp.as(2, 5), UNKNOWN);
        due("as(1, -1)", tramp.as(1, -1), OUTSIDE);
        due("as(1, 5)", tramp.as(1, 5), OUTSIDE);
    }

    private static void loaf() {
        says("Promise 8");
        SinEaters x = read("e9,p1;0987");
        dueRow("loaf 0", row(x.loaf(0, 0), x.loaf(0, 1), x.loaf(0, 2), x.loaf(0, 3), x.loaf(0, 4)),
            0, 9, 0, 1023, 4);
        dueRow("loaf 1", row(x.loaf(1, 0), x.loaf(1, 1), x.loaf(1, 2), x.loaf(1, 3), x.loaf(1, 4)),
            8, 7, 0, 1023, 12);
        x.eat(1, 1);
        due("eaten", x.loaf(1, 2), 1);
        due("the other one was not", x.loaf(0, 2), 0);
        due("loaf(-1, 0)", x.loaf(-1, 0), UNKNOWN);
        due("loaf(2, 0)", x.loaf(2, 0), UNKNOWN);
        due("loaf(2, 5)", x.loaf(2, 5), UNKNOWN);
        due("loaf(greatest, 0)", x.loaf(Integer.MAX_VALUE, 0), UNKNOWN);
        due("loaf(0, -1)", x.loaf(0, -1), OUTSIDE);
        due("loaf(0, 5)", x.loaf(0, 5), OUTSIDE);
        x.die(1);
        due("loaf(2, 0) of the dead", x.loaf(2, 0), 9);
        due("loaf(2, 1) of the dead", x.loaf(2, 1), 6);
    }

    private static void baked() {
        says("Promise 8");
        SinEaters x = read("e9,p1;523461");
        x.say(3, 12, true);
        due("5 and 7, and more than 0 hidden", x.loaf(0, 3), 1022);
        due("7 and 3, and more than 2 hidden", x.loaf(1, 3), 1016);
        due("of loaf 2 nothing is said, and all is so", x.loaf(2, 3), 1023);
        x.say(1, 9, false);
        due("so at most 4, too", x.loaf(0, 3), 30);
        due("loaf 1 is as it was", x.loaf(1, 3), 1016);
        x.say(4, 0, false);
        due("what is not so of another one", x.loaf(0, 3), 0);
        due("nor can it be so of loaf 2", x.loaf(2, 3), 0);
        x.forget();
        x.say(0, 0, false);
        due("no loaf is not more than 0", x.loaf(0, 3), 1023);
        x.say(0, 0, true);
        due("no loaf can't be more than 0", x.loaf(0, 3), 0);
        x.forget();
        x.say(1, 14, true);
        due("5 and 9 is not more than 14", x.loaf(0, 3), 0);
        x.forget();
        x.say(1, 13, true);
        due("it is more than 13", x.loaf(0, 3), 512);
        x.eat(1, 0);
        due("eaten or not", x.loaf(0, 3), 512);
    }

    private static void ask() {
        says("Promise 8");
        SinEaters x = read("e9,p1;900012");
        due("0 to 9 hidden behind 9: halves at 13", x.loaf(0, 4), 13);
        due("behind 0: at 4", x.loaf(1, 4), 4);
        x.say(1, 10, true);
        due("2 to 9", x.loaf(0, 4), 14);
        x.say(1, 12, false);
        due("2 and 3", x.loaf(0, 4), 11);
        x.say(1, 11, false);
        due("2 alone: any question leaves one", x.loaf(0, 4), 0);
        x.say(1, 11, true);
        due("none", x.loaf(0, 4), NONE);
        due("nor of another one", x.loaf(1, 4), NONE);
    }

    private static void eat() {
        says("Promise 9");
        SinEaters x = read("e6,p0,r9,b9;6371829000");
        due("an eater at his hunger", x.eat(0, 0), 9);
        dueRow("he is paid, and less hungry", row(x.about(0, 1), x.about(0, 3), x.about(0, 4)), 4, 9, 6);
        due("more than his hunger", x.eat(0, 1), STATE);
        due("eaten already", x.eat(1, 0), STATE);
        due("a parson", x.eat(2, 4), STATE);
        due("a pauper", x.eat(1, 1), 8);
        dueRow("he is paid, and not below 0", row(x.about(1, 1), x.about(1, 3), x.about(1, 4)), 0, 8, 7);
        due("a beggar", x.eat(3, 3), 4);
        dueRow("he carries half, is paid all", row(x.about(3, 1), x.about(3, 3), x.about(3, 4)), 7, 4, 9);
        due("a beggar's hunger", x.eat(3, 2), STATE);
        due("a crumb", x.eat(0, 4), 9);
        due("hunger 2", x.about(0, 1), 2);
        x.die(1);
        due("a dead one", x.eat(1, 2), STATE);
        due("eat(-1, 0)", x.eat(-1, 0), UNKNOWN);
        due("eat(4, 0)", x.eat(4, 0), UNKNOWN);
        due("eat(0, -1)", x.eat(0, -1), UNKNOWN);
        due("eat(0, 6)", x.eat(0, 6), UNKNOWN);
        dueRow("refusals change nothing", countAll(x), 4, 3, 6, 4, 13, 22, 0, 0, 0, 1, 0);
        SinEaters tramp = read("t0,e1;9910");
        due("a tramp", tramp.eat(0, 0), 18);
        due("hunger 1", tramp.eat(1, 1), 1);
        due("not below 0", tramp.about(1, 1), 0);
    }

    private static void halve() {
        says("Promise 10");
        SinEaters x = read("e5,p0,r9,b9;5470508199");
        due("an eater and a pauper", x.halve(0, 1, 0), 9);
        dueRow("first", row(x.about(0, 1), x.about(0, 3), x.about(0, 4)), 4, 5, 3);
        dueRow("other", row(x.about(1, 1), x.about(1, 3), x.about(1, 4)), 0, 4, 2);
        due("it is eaten", x.loaf(0, 2), 1);
        due("eaten already", x.halve(1, 0, 0), STATE);
        due("too much for the first one", x.halve(0, 1, 1), STATE);
        due("too much for the other one", x.halve(1, 0, 1), STATE);
        due("a parson first", x.halve(2, 1, 1), STATE);
        due("a parson behind", x.halve(1, 2, 1), STATE);
        due("a beggar behind", x.halve(1, 3, 1), 9);
        dueRow("his part is 3, he carries 1", row(x.about(3, 1), x.about(3, 3), x.about(3, 4)), 8, 1, 3);
        dueRow("the pauper", row(x.about(1, 1), x.about(1, 3), x.about(1, 4)), 0, 8, 6);
        due("a beggar first", x.halve(3, 1, 3), 15);
        dueRow("his part is 5, he carries 2", row(x.about(3, 1), x.about(3, 3), x.about(3, 4)), 7, 3, 7);
        x.die(1);
        due("with a dead one", x.halve(3, 1, 2), STATE);
        due("halve(0, 0, 2)", x.halve(0, 0, 2), UNKNOWN);
        due("halve(-1, 0, 2)", x.halve(-1, 0, 2), UNKNOWN);
        due("halve(0, 4, 2)", x.halve(0, 4, 2), UNKNOWN);
        due("halve(0, 3, -1)", x.halve(0, 3, -1), UNKNOWN);
        due("halve(0, 3, 6)", x.halve(0, 3, 6), UNKNOWN);
        dueRow("refusals change nothing", countAll(x), 4, 3, 6, 3, 8, 20, 0, 0, 0, 1, 0);
    }

    private static void winter() {
        says("Promise 11");
        due("no valley", new SinEaters().winter(), STATE);
        SinEaters x = read("t7,e6,p0,e0;22315400");
        x.eat(0, 0);
        x.eat(1, 1);
        due("the tramp's is gone", x.winter(), 4);
        dueRow("the tramp", row(x.about(0, 1), x.about(0, 3), x.about(0, 4)), 8, 0, 2);
        dueRow("the eater", row(x.about(1, 1), x.about(1, 3)), 7, 4);
        due("the pauper's hunger", x.about(2, 1), 3);
        x.die(3);
        due("another winter", x.winter(), 4);
        dueRow("hunger is 9 at most, the dead's stays",
            row(x.about(0, 1), x.about(1, 1), x.about(2, 1), x.about(3, 1)), 9, 9, 6, 3);
        due("count(6)", x.count(6), 2);
    }

    private static void die() {
        says("Promise 12");
        SinEaters x = read("t7,e6,p0,e0;22990109");
        x.eat(2, 0);
        x.eat(2, 1);
        due("die(2)", x.die(2), 4);
        dueRow("nine are told, the rest is hidden", row(x.loaf(4, 0), x.loaf(4, 1), x.loaf(4, 2)), 9, 13, 0);
        dueRow("the dead", row(x.about(2, 2), x.about(2, 3), x.about(2, 4)), 0, 0, 11);
        due("twice", x.die(2), STATE);
        due("die(-1)", x.die(-1), UNKNOWN);
        due("die(4)", x.die(4), UNKNOWN);
        due("he is eaten", x.eat(0, 4), 22);
        due("who carries nothing", x.die(1), 5);
        dueRow("is an empty loaf", row(x.loaf(5, 0), x.loaf(5, 1), x.loaf(5, 2)), 0, 0, 0);
        due("die(3)", x.die(3), 6);
        due("the last one", x.die(0), 7);
        dueRow("all are dead", countAll(x), 4, 0, 8, 3, 0, 20, 0, 0, 0, 1, 0);
        SinEaters full = read("e9,e9,e9,e9;0000000000");
        dueRow("eight loaves", row(full.die(3), full.die(2), full.die(1), full.die(0)), 5, 6, 7, FULL);
        due("he lives", full.about(0, 2), 1);
        due("dead, and full", full.die(3), STATE);
        due("no eater, and full", full.die(4), UNKNOWN);
    }

    private static void spread() {
        says("Promise 13");
        due("no valley", new SinEaters().spread(0), STATE);
        due("no valley, outside", new SinEaters().spread(1), OUTSIDE);
        dueRow("two like loaves", spreadAll(read("e9,e9;2222")), 4, 0, 1, NONE, NONE, NONE, NONE, NONE, NONE);
        dueRow("nobody can", spreadAll(read("e1,r9;2222")), -1, -1, -1, -1, -1, -1, -1, -1, -1);
        dueRow("hunger as it is then", spreadAll(read("e3,r9;2130")), -1, -1, -1, -1, -1, -1, -1, -1, -1);
        dueRow("the less ones behind", spreadAll(read("e3,r9;3010")), 4, 0, 0, -1, -1, -1, -1, -1, -1);
        dueRow("a beggar carries half", spreadAll(read("e9,b9;555555")), 10, 0, 1, 1, -1, -1, -1, -1, -1);
        dueRow("of like ones the first", spreadAll(read("p0,p0,p0;90102030")), 9, 0, 1, 1, 1, -1, -1, -1, -1);
        dueRow("a later way is better", spreadAll(read("e3,p0;133522")), 8, 1, 0, 1, -1, -1, -1, -1, -1);
        spreadBehindMeals();
        SinEaters x = read("e1,e1;11");
        dueRow("outside", row(x.spread(-1), x.spread(1), x.spread(9), x.spread(18), x.spread(Integer.MIN_VALUE)),
            OUTSIDE, OUTSIDE, OUTSIDE, OUTSIDE, OUTSIDE);
        due("refusals do not count", x.count(10), 0);
    }

    private static void spreadBehindMeals() {
        SinEaters x = read("p0,p0;9910203040");
        x.eat(0, 0);
        dueRow("who carries 18 eats none", spreadAll(x), 18, NONE, 1, 1, 1, 1, NONE, NONE, NONE);
        long before = x.digest();
        SinEaters left = read("p0,e9;5511");
        left.eat(0, 0);
        left.eat(1, 1);
        due("no loaf is left", left.spread(0), 10);
        due("so nobody eats one", left.spread(10), NONE);
        due("what could be changes nothing", x.digest(), before);
        SinEaters dead = read("p0,p0;1122");
        dead.eat(0, 0);
        dead.die(0);
        dueRow("the dead eat nothing, and are eaten", spreadAll(dead), 6, -1, 1, 1, -1, -1, -1, -1, -1);
        SinEaters all = read("p0,p0;11");
        all.die(0);
        all.die(1);
        due("all are dead", all.spread(0), NONE);
    }

    private static void spreadTwelveTimes() {
        says("Promise 13");
        SinEaters x = read("e1,r1;22");
        x.image();
        for (int i = 1; i <= 6; i++) {
            due("spread(0), done " + i, x.spread(0), NONE);
        }
        x.restore();
        due("restored, it counts on", x.count(10), 6);
        write(x, "e9,e9;22").valley();
        for (int i = 7; i <= 12; i++) {
            due("spread(0), done " + i, x.spread(0), 4);
        }
        due("the 13th", x.spread(0), STATE);
        due("the 13th, outside", x.spread(2), OUTSIDE);
        due("count(10)", x.count(10), 12);
    }

    private static void say() {
        says("Promise 14");
        SinEaters x = new SinEaters();
        due("no valley", x.say(0, 0, true), STATE);
        due("no valley, outside", x.say(0, 100, true), OUTSIDE);
        x = read("e1,e1;1122");
        due("say(3, 99, false)", x.say(3, 99, false), 1);
        due("say(0, 0, false)", x.say(0, 0, false), 2);
        due("the same", x.say(0, 0, false), 3);
        due("say(4, 0, true)", x.say(4, 0, true), OUTSIDE);
        due("say(-1, 0, true)", x.say(-1, 0, true), OUTSIDE);
        due("say(1, -1, true)", x.say(1, -1, true), OUTSIDE);
        due("say(1, 100, true)", x.say(1, 100, true), OUTSIDE);
        due("count(7)", x.count(7), 3);
        x.die(0);
        due("of the dead, too", x.say(4, 0, true), 4);
        due("say 5", x.say(1, 1, true), 5);
        due("say 6", x.say(1, 1, true), 6);
        due("say 7", x.say(1, 1, true), FULL);
        due("say 7, outside", x.say(8, 1, true), OUTSIDE);
    }

    private static void forget() {
        says("Promise 15");
        due("no valley", new SinEaters().forget(), 0);
        SinEaters x = read("e1,e1;1122");
        x.say(1, 50, true);
        x.say(1, 60, true);
        due("nothing can be so", x.loaf(0, 3), 0);
        due("forget()", x.forget(), 2);
        due("forget() again", x.forget(), 0);
        due("all can be so", x.loaf(0, 3), 1023);
        due("count(7)", x.count(7), 0);
    }

    private static void winters() {
        says("Promise 16");
        SinEaters none = new SinEaters();
        due("no valley", none.winters(1, 0, 0), STATE);
        due("no valley, outside", none.winters(0, 0, 0), OUTSIDE);
        SinEaters x = read("t0,t0;22");
        long before = x.digest();
        due("seed 0, once: it is eaten", x.winters(1, 0, 0), 1);
        due("and carried", x.winters(1, 0, 1), 4);
        due("12345, then the next", x.winters(1, 0, 2), (int) ((1103515245L * 12345 + 12345) % (1L << 31)));
        due("behind the third, the last one, there is a winter", x.winters(3, 0, 1), 0);
        due("behind the second there is none", x.winters(2, 0, 1), 4);
        due("the greatest seed", x.winters(1, 2147483647, 2), 288979989);
        due("sixty times", x.winters(60, 7, 0), 1);
        due("nothing is changed", x.digest(), before);
        dueRow("outside", row(x.winters(0, 0, 0), x.winters(61, 0, 0), x.winters(1, -1, 0), x.winters(1, 0, -1),
            x.winters(1, 0, 3)), OUTSIDE, OUTSIDE, OUTSIDE, OUTSIDE, OUTSIDE);
        x.eat(1, 0);
        due("the one ahead of it", x.winters(1, 0, 0), 1);
        SinEaters parsons = read("r9,r9;0000");
        due("parsons eat none", parsons.winters(60, 1, 0), 0);
        SinEaters hungry = read("e0,e0;30");
        due("too much for now", hungry.winters(3, 5, 0), 0);
        due("behind a winter they would", hungry.winters(4, 5, 0), 1);
    }

    /** From seed 1 the draws are 16838, 5758, 10113, 17515, 31051, 5627, 23010, 7419. */
    private static void draws() {
        says("Promise 16");
        SinEaters x = read("e0,e0,p0;11223330");
        due("eater 2 eats loaf 2", x.winters(1, 1, 1), 6);
        due("eater 0 would not eat loaf 3, nor would eater 1", x.winters(3, 1, 0), 1);
        due("behind a winter eater 0 would", x.winters(4, 1, 0), 2);
        due("and carries it", x.winters(4, 1, 1), 9);
        due("the seed then", x.winters(1, 1, 2) / 65536, 5758);
        due("the seed at the end", x.winters(4, 1, 2) / 65536, 7419);
    }

    private static void image() {
        says("Promise 17");
        due("no valley", new SinEaters().image(), STATE);
        SinEaters x = read("p1,e9;1122");
        due("none was eaten", x.image(), 0);
        x.eat(0, 0);
        due("the latest", x.image(), 1);
        x.eat(1, 1);
        due("it is the one that is kept", x.restore(), 1);
    }

    private static void restore() {
        says("Promise 18");
        due("no valley", new SinEaters().restore(), STATE);
        SinEaters x = read("p1,e9,t4;112233");
        due("none was kept", x.restore(), STATE);
        x.eat(0, 0);
        x.winter();
        x.say(1, 2, true);
        x.image();
        long before = x.digest();
        x.eat(1, 2);
        x.eat(2, 1);
        x.winter();
        x.forget();
        x.say(3, 90, false);
        x.say(2, 0, true);
        x.die(1);
        due("it was changed", x.digest() == before ? 1 : 0, 0);
        due("restore()", x.restore(), 1);
        due("all is as it was", x.digest(), before);
        due("the loaf of the dead is gone", x.loaf(3, 0), UNKNOWN);
        due("another one dies", x.die(0), 3);
        due("of what he carries", x.loaf(3, 0), 2);
        due("once more", x.restore(), 1);
        due("as it was", x.digest(), before);
        write(x, "p1,e9,t4;112233");
        x.restore();
        due("the page stays", x.count(8), 15);
        x.valley();
        due("behind the same text", x.restore(), STATE);
    }

    private static void count() {
        says("Promise 19");
        SinEaters x = read("p1,e9,t4;112233");
        dueRow("at first", countAll(x), 3, 3, 3, 0, 0, 0, 0, 0, 0, 1, 0);
        x.eat(1, 0);
        x.halve(0, 2, 1);
        x.winter();
        x.die(1);
        x.say(15, 3, true);
        x.say(15, 4, true);
        x.spread(0);
        write(x, "e1,");
        dueRow("then", countAll(x), 3, 2, 4, 2, 2, 3, 1, 2, 3, 1, 1);
        due("count(-1)", x.count(-1), OUTSIDE);
        due("count(11)", x.count(11), OUTSIDE);
        due("count(least)", x.count(Integer.MIN_VALUE), OUTSIDE);
    }

    private static void digest() {
        says("Promise 20");
        SinEaters x = new SinEaters();
        due("empty", x.digest(), digestOf(0, 0, 0, 0, 0, 0, 0, 0, 0, 0, 0));
        write(x, "~ ");
        due("the page", x.digest(), digestOf('~', ' ', 0, 0, 0, 0, 0, 0, 0, 0, 2, 0, 0));
        x.blank();
        write(x, "p3,r5;42").valley();
        x.letter('!');
        x.say(1, 8, true);
        due("a valley", x.digest(), digestOf(1, 3, 1, 0, 0, 1, 4, 1, 2, 5, 1, 0, 0, 0, 0, 0,
            4, 2, 0, 0b1111100000, 10, '!', 2, 2, 1, 0, 0, 0, 0, 1, 1, 1, 0));
        due("it changes nothing", x.digest(), x.digest());
    }
}
