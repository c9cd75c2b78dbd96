import java.util.ArrayList;
import java.util.List;
import java.util.regex.Matcher;
import java.util.regex.Pattern;

/**
 * Long runs of drawn calls, each answer held against a model written a second time from the document,
 * as plainly as it goes: all ways are tried, nothing is shared with the program.
 */
public final class ModelRuns {
    private static final int NONE = -1, UNKNOWN = -101, OUTSIDE = -102, STATE = -103, FULL = -104;
    private static final int RUNS = 1500;
    private static final int CALLS = 512;

    private static long seed = 20261118L;
    private static int wrong = 0;

    public static void main(String[] args) {
        for (int run = 0; run < RUNS && wrong < 20; run++) {
            oneRun(run);
        }
        System.out.println(wrong == 0 ? "all answers are as the model's" : wrong + " answers are not as the model's");
        if (wrong != 0) {
            System.exit(1);
        }
    }

    private static int draw(int choices) {
        seed = seed * 6364136223846793005L + 1442695040888963407L;
        return (int) Math.floorMod(seed >>> 33, (long) choices);
    }

    private static void oneRun(int run) {
        SinEaters x = new SinEaters();
        Model model = new Model();
        int calls = 0;
        while (calls < CALLS && wrong < 20) {
            if (draw(model.eaters.isEmpty() ? 3 : 40) == 0) {
                calls += writeText(run, x, model);
            }
            calls += oneCall(run, x, model);
        }
    }

    private static void check(int run, String call, long got, long want) {
        if (got != want) {
            wrong++;
            System.out.println("run " + run + ": " + call + " answered " + got + ", the model " + want);
        }
    }

    /** Most texts are valleys; some have a letter changed, put in or left out. */
    private static int writeText(int run, SinEaters x, Model model) {
        StringBuilder text = new StringBuilder();
        int eaters = draw(12) == 0 ? 1 + draw(5) : 2 + draw(3);
        for (int i = 0; i < eaters; i++) {
            text.append(i == 0 ? "" : ",").append("eprbt".charAt(draw(5))).append(draw(10));
        }
        text.append(';');
        int loaves = draw(12) == 0 ? draw(7) : 1 + draw(5);
        for (int i = 0; i < 2 * loaves; i++) {
            text.append(draw(10));
        }
        if (draw(6) == 0) {
            int place = draw(text.length());
            String put = draw(3) == 0 ? "" : "" + "eprbtx0123456789,;:/ ".charAt(draw(21));
            text.replace(place, place + draw(2), put);
        }
        int calls = 2;
        check(run, "blank()", x.blank(), model.blank());
        for (int i = 0; i < text.length(); i++) {
            check(run, "letter in " + text, x.letter(text.charAt(i)), model.letter(text.charAt(i)));
            calls++;
        }
        check(run, "fault() of " + text, x.fault(), model.fault());
        if (draw(8) != 0) {
            check(run, "valley() of " + text, x.valley(), model.valley());
        }
        return calls + 1;
    }

    private static int number(int most) {
        int kind = draw(30);
        if (kind == 0) {
            return draw(2) == 0 ? Integer.MIN_VALUE : Integer.MAX_VALUE;
        }
        return kind == 1 ? draw(300) - 150 : draw(most + 2) - (draw(8) == 0 ? 1 : 0);
    }

    private static int oneCall(int run, SinEaters x, Model model) {
        int a = number(3);
        int b = number(6);
        int c = number(6);
        switch (draw(24)) {
            case 0: check(run, "letter", x.letter(a + 100), model.letter(a + 100)); break;
            case 1: check(run, "as " + a + " " + b, x.as(a, b), model.as(a, b)); break;
            case 2: case 3: check(run, "about " + a + " " + b, x.about(a, b), model.about(a, b)); break;
            case 4: case 5: check(run, "loaf " + b + " " + c, x.loaf(b, c), model.loaf(b, c)); break;
            case 6: case 7: case 8: check(run, "eat " + a + " " + b, x.eat(a, b), model.eat(a, b)); break;
            case 9: case 10: {
                int d = number(3);
                check(run, "halve " + a + " " + d + " " + b, x.halve(a, d, b), model.halve(a, d, b));
                break;
            }
            case 11: check(run, "winter", x.winter(), model.winter()); break;
            case 12: check(run, "die " + a, x.die(a), model.die(a)); break;
            case 13: {
                int what = draw(3) == 0 ? number(19) : draw(9) == 0 ? 0 : 10 + draw(8);
                check(run, "spread " + what, x.spread(what), model.spread(what));
                break;
            }
            case 14: case 15: case 16: {
                int loaves = draw(3) == 0 ? 1 << draw(6) : number(64);
                int much = draw(2) == 0 ? number(20) : number(99);
                boolean more = draw(2) == 0;
                check(run, "say " + loaves + " " + much, x.say(loaves, much, more), model.say(loaves, much, more));
                break;
            }
            case 17: if (draw(3) == 0) check(run, "forget", x.forget(), model.forget()); break;
            case 18: case 19: {
                int times = number(60);
                int from = draw(2) == 0 ? draw(Integer.MAX_VALUE) : number(1000);
                int what = draw(20) == 0 ? number(3) : draw(3);
                check(run, "winters " + times + " " + from + " " + what,
                    x.winters(times, from, what), model.winters(times, from, what));
                break;
            }
            case 20: check(run, "image", x.image(), model.image()); break;
            case 21: check(run, "restore", x.restore(), model.restore()); break;
            case 22: {
                int what = draw(4) == 0 ? b : draw(11);
                check(run, "count " + what, x.count(what), model.count(what));
                break;
            }
            default: check(run, "digest", x.digest(), model.digest());
        }
        return 1;
    }

    private static final class Eater {
        char kind;
        int hunger, carries, paid;
        boolean dead;

        Eater again() {
            Eater e = new Eater();
            e.kind = kind;
            e.hunger = hunger;
            e.carries = carries;
            e.paid = paid;
            e.dead = dead;
            return e;
        }

        boolean would(Loaf loaf) {
            if (dead || loaf.eaten) {
                return false;
            }
            switch (kind) {
                case 'r': return false;
                case 'p': case 't': return true;
                default: return loaf.told <= hunger;
            }
        }

        void eats(Loaf loaf) {
            paid += loaf.told;
            carries += kind == 'b' ? Math.floorDiv(loaf.told + loaf.hidden, 2) : loaf.told + loaf.hidden;
            hunger = hunger < 2 ? 0 : hunger - 2;
            loaf.eaten = true;
        }
    }

    private static final class Loaf {
        int told, hidden;
        boolean eaten;

        Loaf again() {
            Loaf l = new Loaf();
            l.told = told;
            l.hidden = hidden;
            l.eaten = eaten;
            return l;
        }
    }

    private record Said(int loaves, int much, boolean more) { }

    private static final class Model {
        private static final Pattern FORM = Pattern.compile("[eprbt][0-9](,[eprbt][0-9]){1,3};([0-9][0-9]){1,5}");

        List<Eater> eaters = new ArrayList<>();
        List<Loaf> loaves = new ArrayList<>();
        List<Said> said = new ArrayList<>();
        int winters;
        Model image;
        String page = "";
        int read, spreads;

        int letter(int code) {
            if (code < 32 || code > 126) {
                return OUTSIDE;
            }
            if (page.length() == 24) {
                return FULL;
            }
            page += (char) code;
            return page.length();
        }

        int blank() {
            int had = page.length();
            page = "";
            return had;
        }

        /** How long the longest beginning is that a valley may have. */
        int fault() {
            for (int length = 1; length <= page.length(); length++) {
                Matcher matcher = FORM.matcher(page.substring(0, length));
                if (!matcher.matches() && !matcher.hitEnd()) {
                    return length - 1;
                }
            }
            return page.length();
        }

        int valley() {
            if (!FORM.matcher(page).matches()) {
                return STATE;
            }
            String[] halves = page.split(";");
            eaters.clear();
            loaves.clear();
            said.clear();
            for (String one : halves[0].split(",")) {
                Eater e = new Eater();
                e.kind = one.charAt(0);
                e.hunger = Integer.parseInt(one.substring(1));
                eaters.add(e);
            }
            for (String rest = halves[1]; !rest.isEmpty(); rest = rest.substring(2)) {
                Loaf l = new Loaf();
                l.told = Integer.parseInt(rest.substring(0, 1));
                l.hidden = Integer.parseInt(rest.substring(1, 2));
                loaves.add(l);
            }
            winters = 0;
            image = null;
            page = "";
            read++;
            return loaves.size();
        }

        boolean noEater(int eater) {
            return eater < 0 || eater >= eaters.size();
        }

        boolean noLoaf(int loaf) {
            return loaf < 0 || loaf >= loaves.size();
        }

        Model again() {
            Model m = new Model();
            for (Eater e : eaters) {
                m.eaters.add(e.again());
            }
            for (Loaf l : loaves) {
                m.loaves.add(l.again());
            }
            m.said.addAll(said);
            m.winters = winters;
            return m;
        }

        int about(int eater, int what) {
            if (noEater(eater)) {
                return UNKNOWN;
            }
            Eater e = eaters.get(eater);
            switch (what) {
                case 0: return "eprbt".indexOf(e.kind);
                case 1: return e.hunger;
                case 2: return e.dead ? 0 : 1;
                case 3: return e.carries;
                case 4: return e.paid;
                case 5: {
                    int bits = 0;
                    for (int l = 0; l < loaves.size(); l++) {
                        bits += e.would(loaves.get(l)) ? 1 << l : 0;
                    }
                    return bits;
                }
                case 6: return fed(eater)[0];
                case 7: return fed(eater)[1];
                default: return OUTSIDE;
            }
        }

        int[] fed(int eater) {
            int[] best = {0, 0};
            for (int bits = 0; bits < 1 << loaves.size(); bits++) {
                Model m = again();
                Eater e = m.eaters.get(eater);
                int before = e.paid;
                boolean can = true;
                for (int l = 0; l < m.loaves.size() && can; l++) {
                    if ((bits & 1 << l) != 0) {
                        can = e.would(m.loaves.get(l));
                        e.eats(m.loaves.get(l));
                    }
                }
                if (can && e.paid - before > best[0]) {
                    best = new int[] {e.paid - before, bits};
                }
            }
            return best;
        }

        int as(int eater, int kind) {
            if (noEater(eater)) {
                return UNKNOWN;
            }
            if (kind < 0 || kind > 4) {
                return OUTSIDE;
            }
            char own = eaters.get(eater).kind;
            String such = own == 't' ? "ept" : "e" + own;
            return such.indexOf("eprbt".charAt(kind)) >= 0 ? eater : NONE;
        }

        int loaf(int loaf, int what) {
            if (noLoaf(loaf)) {
                return UNKNOWN;
            }
            Loaf l = loaves.get(loaf);
            switch (what) {
                case 0: return l.told;
                case 1: return l.hidden;
                case 2: return l.eaten ? 1 : 0;
                case 3: {
                    int bits = 0;
                    for (int one : baked(loaf)) {
                        bits += 1 << one;
                    }
                    return bits;
                }
                case 4: return ask(loaf);
                default: return OUTSIDE;
            }
        }

        List<Integer> baked(int loaf) {
            List<Integer> can = new ArrayList<>();
            for (int inside = 0; inside < 10; inside++) {
                Model m = again();
                m.loaves.get(loaf).hidden = inside;
                if (m.isSo()) {
                    can.add(inside);
                }
            }
            return can;
        }

        boolean isSo() {
            for (Said one : said) {
                Eater taster = new Eater();
                taster.kind = 'p';
                for (int l = 0; l < loaves.size(); l++) {
                    if ((one.loaves >> l) % 2 == 1) {
                        taster.eats(loaves.get(l).again());
                    }
                }
                if (one.more ? taster.carries <= one.much : taster.carries > one.much) {
                    return false;
                }
            }
            return true;
        }

        int ask(int loaf) {
            List<Integer> can = baked(loaf);
            int best = NONE;
            int fewest = can.size() + 1;
            for (int much = 20; much >= 0 && !can.isEmpty(); much--) {
                int yes = 0;
                int no = 0;
                for (int one : can) {
                    if (loaves.get(loaf).told + one > much) {
                        yes++;
                    } else {
                        no++;
                    }
                }
                int left = yes > no ? yes : no;
                if (left <= fewest) {
                    fewest = left;
                    best = much;
                }
            }
            return best;
        }

        int eat(int eater, int loaf) {
            if (noEater(eater) || noLoaf(loaf)) {
                return UNKNOWN;
            }
            Eater e = eaters.get(eater);
            if (!e.would(loaves.get(loaf))) {
                return STATE;
            }
            e.eats(loaves.get(loaf));
            return e.carries;
        }

        int halve(int a, int b, int loaf) {
            if (noEater(a) || noEater(b) || a == b || noLoaf(loaf)) {
                return UNKNOWN;
            }
            Eater first = eaters.get(a);
            Eater other = eaters.get(b);
            Loaf l = loaves.get(loaf);
            if (!first.would(l) || !other.would(l)) {
                return STATE;
            }
            int otherPay = l.told / 2;
            int otherPart = (l.told + l.hidden) / 2;
            int firstPart = l.told + l.hidden - otherPart;
            first.paid += l.told - otherPay;
            other.paid += otherPay;
            first.carries += first.kind == 'b' ? firstPart / 2 : firstPart;
            other.carries += other.kind == 'b' ? otherPart / 2 : otherPart;
            first.hunger = first.hunger == 0 ? 0 : first.hunger - 1;
            other.hunger = other.hunger == 0 ? 0 : other.hunger - 1;
            l.eaten = true;
            return first.carries + other.carries;
        }

        int carriedByAll() {
            int all = 0;
            for (Eater e : eaters) {
                all += e.carries;
            }
            return all;
        }

        int winter() {
            if (eaters.isEmpty()) {
                return STATE;
            }
            for (Eater e : eaters) {
                if (!e.dead) {
                    e.hunger = e.hunger > 6 ? 9 : e.hunger + 3;
                    e.carries = e.kind == 't' ? 0 : e.carries;
                }
            }
            winters++;
            return carriedByAll();
        }

        int die(int eater) {
            if (noEater(eater)) {
                return UNKNOWN;
            }
            Eater e = eaters.get(eater);
            if (e.dead) {
                return STATE;
            }
            if (loaves.size() == 8) {
                return FULL;
            }
            Loaf l = new Loaf();
            l.told = e.carries > 9 ? 9 : e.carries;
            l.hidden = e.carries - l.told;
            loaves.add(l);
            e.carries = 0;
            e.dead = true;
            return loaves.size() - 1;
        }

        int spread(int what) {
            if (what != 0 && (what < 10 || what > 17)) {
                return OUTSIDE;
            }
            if (eaters.isEmpty() || spreads == 12) {
                return STATE;
            }
            spreads++;
            List<Integer> left = new ArrayList<>();
            for (int l = 0; l < loaves.size(); l++) {
                if (!loaves.get(l).eaten) {
                    left.add(l);
                }
            }
            int ways = 1;
            for (int i = 0; i < left.size(); i++) {
                ways *= eaters.size();
            }
            int least = Integer.MAX_VALUE;
            int bestWay = -1;
            for (int way = 0; way < ways; way++) {
                int most = mostBy(way, ways, left);
                if (most >= 0 && most < least) {
                    least = most;
                    bestWay = way;
                }
            }
            if (bestWay < 0) {
                return NONE;
            }
            return what == 0 ? least : who(bestWay, ways, left, what - 10);
        }

        /** A way is a number whose digits tell who eats; the first loaf's digit counts most. */
        int mostBy(int way, int ways, List<Integer> left) {
            Model m = again();
            int rest = way;
            int unit = ways;
            for (int l : left) {
                unit /= eaters.size();
                Eater e = m.eaters.get(rest / unit);
                rest %= unit;
                if (!e.would(m.loaves.get(l))) {
                    return -1;
                }
                e.eats(m.loaves.get(l));
            }
            int most = 0;
            for (Eater e : m.eaters) {
                most = e.carries > most ? e.carries : most;
            }
            return most;
        }

        int who(int way, int ways, List<Integer> left, int loaf) {
            int rest = way;
            int unit = ways;
            for (int l : left) {
                unit /= eaters.size();
                if (l == loaf) {
                    return rest / unit;
                }
                rest %= unit;
            }
            return NONE;
        }

        int say(int bits, int much, boolean more) {
            if (bits < 0 || bits > (1 << loaves.size()) - 1 || much < 0 || much > 99) {
                return OUTSIDE;
            }
            if (eaters.isEmpty()) {
                return STATE;
            }
            if (said.size() == 6) {
                return FULL;
            }
            said.add(new Said(bits, much, more));
            return said.size();
        }

        int forget() {
            int had = said.size();
            said.clear();
            return had;
        }

        int winters(int times, int from, int what) {
            if (times < 1 || times > 60 || from < 0 || what < 0 || what > 2) {
                return OUTSIDE;
            }
            if (eaters.isEmpty()) {
                return STATE;
            }
            Model m = again();
            long then = from;
            for (int time = 1; time <= times; time++) {
                then = (1103515245L * then + 12345L) & 0x7fffffffL;
                int eater = (int) ((then >> 16) % m.eaters.size());
                then = (1103515245L * then + 12345L) & 0x7fffffffL;
                int loaf = (int) ((then >> 16) % m.loaves.size());
                m.eat(eater, loaf);
                if (time == 3 * (time / 3)) {
                    m.winter();
                }
            }
            return what == 0 ? m.eatenLoaves() : what == 1 ? m.carriedByAll() : (int) then;
        }

        int eatenLoaves() {
            int many = 0;
            for (Loaf l : loaves) {
                many += l.eaten ? 1 : 0;
            }
            return many;
        }

        int image() {
            if (eaters.isEmpty()) {
                return STATE;
            }
            image = again();
            return eatenLoaves();
        }

        int restore() {
            if (image == null) {
                return STATE;
            }
            Model m = image.again();
            eaters = m.eaters;
            loaves = m.loaves;
            said = m.said;
            winters = m.winters;
            return eatenLoaves();
        }

        int count(int what) {
            int living = 0;
            int paid = 0;
            for (Eater e : eaters) {
                living += e.dead ? 0 : 1;
                paid += e.paid;
            }
            int[] all = {eaters.size(), living, loaves.size(), eatenLoaves(), carriedByAll(), paid, winters,
                said.size(), page.length(), read, spreads};
            return what < 0 || what >= all.length ? OUTSIDE : all[what];
        }

        long digest() {
            long h = 1019;
            for (int e = 0; e < eaters.size(); e++) {
                for (int what = 0; what < 8; what++) {
                    h = 31 * h + about(e, what);
                }
            }
            for (int l = 0; l < loaves.size(); l++) {
                for (int what = 0; what < 5; what++) {
                    h = 31 * h + loaf(l, what);
                }
            }
            for (char c : page.toCharArray()) {
                h = 31 * h + c;
            }
            for (int what = 0; what < 11; what++) {
                h = 31 * h + count(what);
            }
            return h;
        }
    }
}
