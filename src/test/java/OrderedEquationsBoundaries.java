/**
 * One test for each sentence of the document that names a boundary case: too small, too large,
 * empty, full, refused, or one choice before another. Each test begins with the words that it is
 * about, has a new object, and tells its calls with the answers that are due.
 */
public final class OrderedEquationsBoundaries {
    private static final String[] STEP_ANSWERS = {"IDLE", "PROVED", "ADDED", "JUNK", "FULL"};
    private static OrderedEquations x = new OrderedEquations();
    private static String words = "";
    private static int sentences = 0;
    private static int wrong = 0;

    public static void main(String[] args) {
        use();
        theText();
        faults();
        letters();
        theOrder();
        naming();
        unifying();
        unifyingFails();
        matching();
        reducing();
        reducingAtItsLimits();
        limits();
        whichOverlaps();
        overlapsAgainstTheOrder();
        overlapsTooHeavy();
        newPairs();
        newPairsThatAreLost();
        newPairsThatAreAlike();
        stepsBegin();
        stepsWithJunk();
        stepsWhenFull();
        stepsInTheirOrder();
        stepsAndTheGoal();
        promise1NewObject();
        promise2Type();
        promise3Wipe();
        promise4Axiom();
        promise4AxiomRefused();
        promise5Goal();
        promise5GoalRefused();
        promise6Step();
        promise7Steps();
        promise8Count();
        promise9Show();
        promise9ShowRefused();
        promise10Compare();
        promise11Unify();
        promise12Reduce();
        promise13Length();
        promise14CharAt();
        System.out.println(wrong == 0
                ? "all " + sentences + " sentences hold" : wrong + " answers are not as due");
        System.exit(wrong == 0 ? 0 : 1);
    }

    /** Begins the test of a sentence, with a new object. */
    private static void sentence(String quoted) {
        words = quoted;
        sentences++;
        x = new OrderedEquations();
    }

    /** Another new object for the same sentence. */
    private static void anew() {
        x = new OrderedEquations();
    }

    private static void due(String call, Object answer) {
        String got;
        try {
            got = answer(call);
        } catch (RuntimeException e) {
            got = e.getClass().getSimpleName();
        }
        if (!got.equals("" + answer)) {
            wrong++;
            System.out.println("\"" + words + "\": " + call + " answered " + got + ", due is " + answer);
        }
    }

    /** Makes equations active, each before the next one waits. */
    private static void added(String... equations) {
        for (String equation : equations) {
            given(equation);
            due("step", "ADDED");
            int newest = x.count(0) - 1;
            due("show 0 " + newest, equation.length() + " " + equation);
        }
    }

    /** Lets equations wait. */
    private static void given(String... equations) {
        for (String equation : equations) {
            text(equation);
            x.axiom();
        }
    }

    private static void text(String typed) {
        for (char c : typed.toCharArray()) {
            if (!x.type(c)) {
                wrong++;
                System.out.println("\"" + words + "\": type " + c + " of " + typed + " answered false");
            }
        }
    }

    /** A call is its name and, behind a space, the text that is typed before it or its arguments. */
    private static String answer(String call) {
        int space = call.indexOf(' ');
        String name = space < 0 ? call : call.substring(0, space);
        String rest = space < 0 ? "" : call.substring(space + 1);
        switch (name) {
            case "type":
                return "" + x.type((char) Integer.parseInt(rest));
            case "wipe":
                return "" + x.wipe();
            case "step":
                return STEP_ANSWERS[x.step()];
            case "steps":
                return STEP_ANSWERS[x.steps(Integer.parseInt(rest))];
            case "count":
                return "" + x.count(Integer.parseInt(rest));
            case "counts":
                return x.count(0) + " " + x.count(1) + " " + x.count(2);
            case "show":
                String[] numbers = rest.split(" ");
                return withPage(x.show(Integer.parseInt(numbers[0]), Integer.parseInt(numbers[1])));
            case "active":
                return all(0);
            case "waiting":
                return all(1);
            case "length":
                return "" + x.length();
            case "charAt":
                return "'" + x.charAt(Integer.parseInt(rest)) + "'";
            case "page":
                return page();
            default:
                text(rest);
                return afterReading(name);
        }
    }

    private static String afterReading(String name) {
        switch (name) {
            case "axiom":
                return number(x.axiom());
            case "goal":
                int answer = x.goal();
                return answer < 0 ? number(answer) : STEP_ANSWERS[answer];
            case "compare":
                return number(x.compare());
            case "unify":
                return withPage(x.unify());
            case "reduce":
                return withPage(x.reduce());
            default:
                throw new UnsupportedOperationException(name);
        }
    }

    private static String number(int answer) {
        return answer == -100 ? "NONE" : answer == -200 ? "HEAVY" : "" + answer;
    }

    private static String withPage(int answer) {
        return answer < 0 ? number(answer) : answer + " " + page();
    }

    private static String page() {
        StringBuilder made = new StringBuilder();
        for (int p = 0; p < x.length(); p++) {
            made.append(x.charAt(p));
        }
        return made.toString();
    }

    private static String all(int what) {
        StringBuilder made = new StringBuilder();
        for (int i = 0; i < x.count(what); i++) {
            x.show(what, i);
            made.append(i == 0 ? "" : " ").append(page());
        }
        return made.toString();
    }

    private static String f(int many) {
        return "f".repeat(many);
    }

    private static String g(int many) {
        return "g".repeat(many);
    }

    private static void use() {
        sentence("An object is used for at most 512 calls after it has been made");
        for (int i = 0; i < 249; i++) {
            x.type('p');
            x.wipe();
        }
        text("fu=u");
        due("axiom", 1);
        due("step", "ADDED");
        text("fb");
        due("reduce", "1 b");
        x.type('a');
        // The page was read by three calls, so this is the 512th.
        due("wipe", 1);
    }

    private static void theText() {
        sentence("The TEXT has at most 60 characters");
        text(f(59));
        due("type 97", true);
        due("type 97", false);
        due("wipe", 60);

        sentence("with codes 32 .. 126");
        due("type 31", false);
        due("type 32", true);
        due("type 126", true);
        due("type 127", false);
        due("wipe", 2);

        sentence("places count from 0");
        due("compare =a", -1);
        due("compare " + f(59) + "=", -60);
    }

    private static void faults() {
        sentence("the place of the first character with which the text up to and with it is not the"
                + " beginning of any such thing");
        due("compare a=bc", -4);
        due("compare ab=c", -2);
        due("compare pa=b", -3);
        due("compare a=b ", -4);
        due("compare e?=", -1);
        due("compare p?a=?", -2);
        due("reduce pabc", -4);
        due("reduce a=", -2);

        sentence("its length when there is none, but the text is none");
        due("compare", -1);
        due("compare a", -2);
        due("compare a=", -3);
        due("compare a=pf", -5);
        due("reduce", -1);
        due("reduce pa", -3);
        due("reduce " + "p".repeat(60), -61);

        sentence("An EQUATION is a term, =, a term.");
        due("compare a=a", 3);
        due("compare a=a=a", -4);
        due("compare a==a", -3);
        due("compare =", -1);
        due("compare aa", -2);
    }

    private static void letters() {
        sentence("SIGNS are a, b, c, d, which have no ARGUMENTS, f, g, which have one, and p, q, which"
                + " have two; VARIABLES are u, v, w, x, y, z.");
        for (char c = 32; c <= 126; c++) {
            boolean whole = "abcduvwxyz".indexOf(c) >= 0;
            boolean one = "fg".indexOf(c) >= 0;
            boolean two = "pq".indexOf(c) >= 0;
            anew();
            due("reduce " + c, whole ? "0 " + c : one || two ? "-2" : "-1");
            due("reduce " + c + "a", one ? "0 " + c + "a" : two ? "-3" : whole ? "-2" : "-1");
            due("reduce " + c + "aa", two ? "0 " + c + "aa" : one ? "-3" : whole ? "-2" : "-1");
        }

        sentence("Its WEIGHT is how many letters it has, that of an equation those of both sides together.");
        due("axiom " + f(18) + "a=b", 1);
        due("axiom a=" + f(18) + "b", 2);
        due("axiom " + f(9) + "a=" + f(9) + "b", 3);
        due("axiom " + f(19) + "a=b", "HEAVY");
        due("axiom a=" + f(19) + "b", "HEAVY");
        due("axiom " + f(10) + "a=" + f(9) + "b", "HEAVY");

        sentence("Its SUBTERMS are told in the order of their first letters, it itself being the first.");
        added("qfab=c", "fa=d");
        due("reduce qfab", "1 c");
        anew();
        added("fgu=gfu");
        // The 50 times are used up in the first argument.
        due("reduce q" + f(5) + g(10) + "bfgb", "50 q" + g(10) + f(5) + "bfgb");
    }

    private static void theOrder() {
        sentence("Signs stand p, q, f, g, a, b, c, d from the greatest to the least.");
        String[] down = {"pdd", "qdd", "fd", "gd", "a", "b", "c", "d"};
        for (int i = 0; i < 7; i++) {
            due("compare " + down[i] + "=" + down[i + 1], 1);
            due("compare " + down[i + 1] + "=" + down[i], 2);
        }

        sentence("if t is a variable that occurs in s, and s is not t");
        due("compare u=u", 3);
        due("compare fu=u", 1);
        due("compare pau=u", 1);
        due("compare pav=u", 0);
        due("compare v=u", 0);

        sentence("or if neither is a variable, and an argument of s is t or greater than t");
        due("compare u=d", 0);
        due("compare a=u", 0);
        due("compare gqab=qab", 1);
        due("compare gpuv=quv", 1);
        due("compare gqab=pab", 2);

        sentence("s is greater than each argument of t, and the sign of s is greater than that of t");
        due("compare puv=quv", 1);
        due("compare puv=qwu", 0);
        due("compare puv=quw", 0);
        due("compare fu=" + g(56) + "u", 1);
        due("compare " + g(56) + "u=fu", 2);
        due("compare fu=" + g(56) + "v", 0);

        sentence("of the first arguments that are not the same in both, that of s is greater");
        due("compare pad=pba", 1);
        due("compare pba=pad", 2);
        due("compare pab=pac", 1);
        due("compare pac=pab", 2);
        due("compare pab=pab", 3);
        due("compare puv=pvu", 0);
        due("compare pfuu=pufu", 1);
        due("compare " + f(29) + "u=" + f(28) + "u", 1);
    }

    private static void naming() {
        sentence("its variables, in the order in which they first occur (left side first), are u, v, w,"
                + " x, y, z");
        given("pzpypxpwpvu=fu", "gz=y", "a=pzv", "puv=u");
        due("waiting", "pupvpwpxpyz=fz gu=v a=puv puv=u");

        sentence("Two named equations are ALIKE if they are the same");
        added("pafu=qvu");
        given("pafz=qwz");
        due("step", "JUNK");
        given("qvu=pafw");
        due("step", "ADDED");

        sentence("or the one is what the other becomes by exchanging its sides and naming it");
        added("fu=v");
        given("u=fv");
        due("step", "JUNK");
        given("v=fu");
        due("step", "JUNK");
        due("counts", "1 0 0");
    }

    private static void unifying() {
        sentence("to look at a term is to look at its value instead, if it is a variable that has one,"
                + " and so on");
        due("unify ppuvu=ppvaa", "5 ppaaa");
        due("unify ppuvu=ppvab", "NONE");
        due("unify pppuvwu=pppvwaa", "7 pppaaaa");
        due("unify pppuvwu=pppvwab", "NONE");

        sentence("Twice the same variable: nothing.");
        due("unify u=u", "1 u");
        due("unify puu=puu", "3 puu");
        due("unify ppuvv=ppvuu", "5 ppvvv");

        sentence("Else if the first is a variable, it gets the second as its value; else if the second is"
                + " one, it gets the first.");
        due("unify u=v", "1 v");
        due("unify u=fv", "2 fv");
        due("unify fv=u", "2 fv");

        sentence("the pairs of their arguments are looked at next, from the left, before those that wait");
        due("unify puv=pvu", "3 pvv");
        due("unify ppuvu=ppvwx", "5 ppxxx");
        due("unify pupvw=ppxyu", "7 ppxypxy");
        due("unify ppuvw=pwpxu", "7 ppxxpxx");
        due("unify ppuvpuw=ppwxpvx", "7 ppxxpxx");
    }

    private static void unifyingFails() {
        sentence("It FAILS if signs differ");
        due("unify a=b", "NONE");
        due("unify fa=ga", "NONE");
        due("unify pab=qab", "NONE");
        due("unify pua=pvb", "NONE");
        due("unify fa=fa", "2 fa");

        sentence("if a variable would get a term in which it occurs, when all values are put in");
        due("unify u=fu", "NONE");
        due("unify fu=u", "NONE");
        due("unify pvu=pufv", "NONE");
        due("unify ppuvw=ppfvfwfu", "NONE");
        due("unify pvu=pfufw", "6 pffwfw");

        sentence("or that then has a weight above 300");
        // u', v, v', w get terms of weight 7, 24, 74, 300: it does not fail, but is LOST, as are three more.
        added("pqqguguupvpqvqvvw=d", "pupqguquupvqqvgvqvv=d");
        due("counts", "2 0 4");
        anew();
        // Here of weight 7, 31, 97, 301, so that nothing comes of it in either direction.
        added("pggququupvpqqvgvgvw=d", "pupqququuupvqqvvquv=d");
        due("counts", "2 0 2");

        sentence("and at the 301st pair");
        due("unify pzpypxpwpwpww=pqqaaqaapqqzzqzzpqqyyqyypxpxpxx", "NONE");
        // That shows no limit, as what has so many pairs is above 60 anyway. In overlaps, to fail and to
        // be LOST differ, but no two sides of 19 letters were found with more pairs than these: 199.
        added("quqqvqvvqqqwxqywqvu=d", "qquuquqvqqqvvqvvquu=d");
        due("counts", "2 0 12");
    }

    private static void matching() {
        sentence("MATCHES a term t if t is l with terms put in for its variables");
        added("puu=u");
        due("reduce pfafa", "1 fa");
        due("reduce pfafb", "0 pfafb");
        due("reduce puv", "0 puv");
        due("reduce pvv", "1 v");
        due("reduce v", "0 v");
        due("reduce qaa", "0 qaa");

        sentence("It CAN BE USED on t if all variables of r occur in l");
        added("pua=fv", "u=v");
        due("reduce pba", "0 pba");
        due("reduce ffb", "0 ffb");
        due("reduce pva", "0 pva");
        due("reduce gv", "0 gv");
        anew();
        added("pua=fu");
        due("reduce pba", "1 fb");

        sentence("and t is greater than what r becomes so");
        added("puv=pvu");
        due("reduce pab", "1 pba");
        due("reduce pba", "0 pba");
        due("reduce paa", "0 paa");
        due("reduce puv", "0 puv");
    }

    private static void reducing() {
        sentence("the first subterm on which one can be used");
        added("qab=c", "a=d");
        due("reduce qab", "1 c");
        due("reduce qqaba", "2 qcd");

        sentence("there the first equation");
        added("fc=c", "fu=b");
        due("reduce fc", "1 c");
        due("reduce fa", "1 b");

        sentence("of it the left side rather than the right one");
        added("pfuv=pvu");
        due("reduce pfbc", "1 pcb");
        anew();
        added("puv=pfvu");
        due("reduce pfbc", "1 pfcfb");
        anew();
        added("a=fb");
        due("reduce gfb", "1 ga");
    }

    private static void reducingAtItsLimits() {
        sentence("so that the whole term has a weight of 30 at most when the subterm has been replaced by"
                + " what the other side becomes");
        added("pua=quququququu");
        due("reduce qpba" + g(17) + "b", "1 qqbqbqbqbqbb" + g(17) + "b");
        due("reduce qpba" + g(18) + "b", "0 qpba" + g(18) + "b");
        // The next equation or the next subterm may still be used.
        added("puv=quv");
        due("reduce qpba" + g(18) + "b", "1 qqba" + g(18) + "b");
        anew();
        added("pua=quququququu", "gb=b");
        due("reduce qpba" + g(18) + "b", "19 qqbqbqbqbqbbb");

        sentence("So again and again, until there is none, or 50 times.");
        added("fgu=gfu");
        due("reduce " + g(7) + f(7) + "a", "0 " + g(7) + f(7) + "a");
        due("reduce " + f(7) + g(7) + "a", "49 " + g(7) + f(7) + "a");
        due("reduce " + f(5) + g(10) + "a", "50 " + g(10) + f(5) + "a");
        due("reduce " + f(3) + g(17) + "a", "50 " + g(16) + "fgffa");
    }

    private static void limits() {
        sentence("There are WAITING equations, at most 30, in the order in which they came");
        for (int i = 1; i <= 30; i++) {
            due("axiom " + f(i % 17) + "a=" + g(i % 2) + "b", i);
        }
        due("axiom a=b", "IllegalStateException");
        due("count 1", 30);
        due("show 1 0", "5 fa=gb");
        due("show 1 29", "16 " + f(13) + "a=b");
        due("show 1 30", "IndexOutOfBoundsException");

        sentence("and ACTIVE ones, at most 10, numbered from 0");
        added("paa=d", "pab=d", "pac=d", "pad=d", "pba=d", "pbb=d", "pbc=d", "pbd=d", "pca=d", "pcb=d");
        given("pcc=d");
        due("step", "FULL");
        due("count 0", 10);
        due("show 0 0", "5 paa=d");
        due("show 0 9", "5 pcb=d");
        due("show 0 10", "IndexOutOfBoundsException");

        sentence("all are named and have a weight of 20 at most");
        due("axiom " + f(10) + "z=" + g(8) + "z", "1");
        due("axiom " + f(10) + "z=" + g(9) + "z", "HEAVY");
        due("waiting", f(10) + "u=" + g(8) + "u");

        sentence("and there is a GOAL or none, two terms without variables");
        due("show 2 0", "IndexOutOfBoundsException");
        due("goal a=u", -3);
        due("show 2 0", "IndexOutOfBoundsException");
        due("goal a=b", "IDLE");
        due("show 2 0", "3 a=b");
    }

    private static void whichOverlaps() {
        sentence("AN OVERLAP of an equation A into an equation B (perhaps itself)");
        added("ffu=gu");
        due("waiting", "fgu=gfu");
        anew();
        added("gfu=u", "fa=b");
        due("waiting", "gb=a");

        sentence("a subterm of m that is no variable");
        added("gu=v");
        due("waiting", "");
        anew();
        added("puu=v");
        due("waiting", "");
        anew();
        added("fgu=v");
        due("waiting", "ffgu=v");

        sentence("not the whole m, if A is B and l and m are the same side");
        added("fa=u");
        due("waiting", "");
        anew();
        // The other side of itself.
        added("quv=qwu");
        due("waiting", "quv=qwx");
        anew();
        // The same side of another one.
        added("a=u", "a=b");
        due("waiting", "b=u");

        sentence("B's variables are made others than A's");
        added("fu=ggv");
        due("waiting", "gfu=fv");
    }

    private static void overlapsAgainstTheOrder() {
        sentence("If that fails, or r's instance is the same as or greater than that of l");
        // These fail.
        added("pab=d", "qpbau=d");
        due("counts", "2 0 0");
        anew();
        // The left side into the right one: both instances of l and r are pfufu.
        added("pufv=puu");
        due("counts", "1 0 0");
        anew();
        // The left side into the a: pav is greater than a.
        added("u=pav");
        due("counts", "1 0 0");
        anew();
        // Neither is greater than the other.
        added("fu=ggv");
        due("waiting", "gfu=fv");

        sentence("or n's than that of m, nothing comes of it");
        // The right side into the left one: both instances of m and n are pfufu.
        added("pufv=puu");
        due("counts", "1 0 0");
        anew();
        added("pguu=puv");
        due("counts", "1 0 0");
    }

    private static void overlapsTooHeavy() {
        sentence("But if an instance of l, r, m or n has a weight above 30");
        // Of l, which is the whole m here: each way round, but the second pair is alike.
        added("gpuu=d", "gp" + g(13) + "au=c");
        due("counts", "2 1 0");
        due("waiting", "c=d");
        anew();
        added("ggpuu=d", "ggp" + g(13) + "au=c");
        due("counts", "2 0 2");
        anew();
        // Of m.
        added(g(17) + "fu=d", f(1) + g(11) + "a=d");
        due("counts", "2 1 0");
        due("waiting", g(17) + "d=d");
        anew();
        added(g(17) + "fu=d", f(1) + g(12) + "a=d");
        due("counts", "2 0 1");
        anew();
        // Of r, and the other way round of n.
        added("fu=gpuu", f(1) + g(13) + "a=d");
        due("counts", "2 0 0");
        anew();
        added("fu=ggpuu", f(1) + g(13) + "a=d");
        due("counts", "2 0 2");
        anew();
        // Of n.
        added("gfu=gpuu", f(1) + g(13) + "a=d");
        due("counts", "2 0 0");
        anew();
        added("gfu=ggpuu", f(1) + g(13) + "a=d");
        due("counts", "2 0 1");

        sentence("(looked at before the order)");
        // The right side into the left one: of weight 31, and greater than that of l.
        added("puqupuu=u");
        due("counts", "1 0 1");

        sentence("or otherwise m's instance with the instance of r in place of that subterm's has, it is LOST");
        added(g(13) + "puv=d", "gquv=d", "puv=quqvquqvquqvquqvv");
        due("counts", "3 1 0");
        due("waiting", g(12) + "d=d");
        anew();
        added(g(14) + "puv=d", "gquv=d", "puv=quqvquqvquqvquqvv");
        due("counts", "3 0 1");
        anew();
        // Looked at behind the order: r's instance has a weight of 30, and is greater than that of l.
        added("fu=gpuu", "ggf" + g(13) + "a=d");
        due("counts", "2 0 0");
    }

    private static void newPairs() {
        sentence("A new pair: both sides are reduced by all active equations.");
        added("ffu=gfu");
        due("waiting", "fgfu=ggfu");
        anew();
        added("gc=d", "gpau=u", "pab=c");
        due("waiting", "d=b");
        anew();
        added("gb=d", "fpau=gu", "pab=c");
        due("waiting", "fc=d");

        sentence("If they are the same then, nothing comes of it.");
        added("ggu=ga");
        due("counts", "1 0 0");
        anew();
        added("fgu=u", "gfu=u");
        due("counts", "2 0 0");
    }

    private static void newPairsThatAreLost() {
        sentence("Otherwise it is LOST if there are more than six variables in it");
        added("pfuqvqwqxqyz=d", "fu=gv");
        due("counts", "2 1 0");
        due("waiting", "pguqvqwqxqyz=d");
        anew();
        added("pfuqvqwqxqyz=gu", "fu=gv");
        due("counts", "2 0 1");

        sentence("or its weight is above 20");
        added(g(9) + "puv=d", "puv=fquququqvv");
        due("counts", "2 1 0");
        due("waiting", g(9) + "fquququqvv=d");
        anew();
        added(g(10) + "puv=d", "puv=fquququqvv");
        due("counts", "2 0 1");

        sentence("it is LOST if 30 wait; else it waits");
        added("gfu=u", "pfuv=d");
        for (int i = 1; i <= 29; i++) {
            given("ffffc=d");
        }
        given("fa=b");
        due("counts", "2 30 0");
        due("step", "ADDED");
        due("counts", "3 30 1");
        due("show 1 29", "4 gb=a");
        anew();
        added("gfu=u", "pfuv=d");
        for (int i = 1; i <= 28; i++) {
            given("ffffc=d");
        }
        given("fa=b");
        due("step", "ADDED");
        due("counts", "3 30 0");
        due("show 1 29", "5 pbu=d");
    }

    private static void newPairsThatAreAlike() {
        sentence("Otherwise it is named; if an active or waiting one is alike, nothing comes of it");
        // An active one, and that one turned.
        added("u=fv");
        due("counts", "1 0 0");
        anew();
        // A waiting one.
        added("gfu=u");
        given("fa=b", "gb=a");
        due("step", "ADDED");
        due("waiting", "gb=a");
        anew();
        added("gfu=u");
        given("fa=b", "a=gb");
        due("step", "ADDED");
        due("waiting", "a=gb");
        anew();
        // It is not LOST when 30 wait.
        added("gfa=a", "gfu=u");
        for (int i = 1; i <= 29; i++) {
            given("ffffc=d");
        }
        given("fa=b");
        due("step", "ADDED");
        due("show 1 29", "4 gb=a");
        due("counts", "3 30 0");
    }

    private static void stepsBegin() {
        sentence("If the goal is PROVED: PROVED.");
        due("goal a=a", "PROVED");
        due("step", "PROVED");
        given("fa=b");
        due("step", "PROVED");
        due("counts", "0 1 0");

        sentence("If none waits: IDLE.");
        due("step", "IDLE");
        due("goal a=b", "IDLE");
        due("step", "IDLE");
        given("fa=b");
        due("step", "ADDED");
        due("step", "IDLE");
        due("counts", "1 0 0");

        sentence("Otherwise that of least weight, of several the one that has waited longest, waits no more.");
        given("pab=fd", "qab=d", "pba=d", "pcc=d", "pbb=fd");
        due("step", "ADDED");
        due("active", "qab=d");
        due("waiting", "pab=fd pba=d pcc=d pbb=fd");
        due("step", "ADDED");
        due("step", "ADDED");
        due("step", "ADDED");
        due("active", "qab=d pba=d pcc=d pab=fd");
        due("waiting", "pbb=fd");
    }

    private static void stepsWithJunk() {
        sentence("Both sides are reduced by all active ones. It is JUNK if they are the same");
        added("fu=u");
        given("pfab=pafb");
        due("step", "JUNK");
        due("counts", "1 0 0");
        given("a=a");
        due("step", "JUNK");
        given("pfab=pafc");
        due("step", "ADDED");
        due("show 0 1", "7 pab=pac");

        sentence("if the weight is above 20");
        added("pau=quququququu");
        given("qpab" + g(7) + "c=d");
        due("step", "JUNK");
        due("counts", "1 0 0");
        given("qpab" + g(6) + "c=d");
        due("step", "ADDED");
        due("show 0 1", "21 qqbqbqbqbqbb" + g(6) + "c=d");

        sentence("or, when it has been named, if an active one is alike");
        added("puv=qwu");
        given("puv=qwu");
        due("step", "JUNK");
        given("quv=pvw");
        due("step", "JUNK");
        due("counts", "1 0 0");
        given("puv=quw");
        due("step", "ADDED");
        // One that waits does not matter.
        given("fa=b", "fa=b");
        due("step", "ADDED");
    }

    private static void stepsWhenFull() {
        sentence("FULL if 10 are active, it being lost (but not counted as LOST).");
        added("puv=pvu", "fgu=gfu", "qab=d", "qac=d", "qad=d", "qba=d", "qbb=d", "qbc=d", "qbd=d");
        given("qcb=d");
        due("step", "ADDED");
        given("qcc=d");
        due("counts", "10 1 0");
        due("step", "FULL");
        due("counts", "10 0 0");
        // Behind JUNK.
        given("qab=qac");
        due("step", "JUNK");
        given("puv=pvu");
        due("step", "JUNK");
        // The goal, for which 50 times are not enough, is not reduced again.
        due("goal " + f(8) + g(7) + "a=b", "IDLE");
        given("qcc=d");
        due("step", "FULL");
        due("show 2 0", "18 " + g(6) + f(6) + "gffa=b");
    }

    private static void stepsInTheirOrder() {
        sentence("Otherwise it becomes active, with the next number");
        given("fa=b", "c=d");
        due("step", "ADDED");
        due("show 0 0", "3 c=d");
        due("step", "ADDED");
        due("show 0 1", "4 fa=b");

        sentence("for each active one D by number, it itself last");
        added("qffab=d", "pffab=d", "ffu=gu");
        due("waiting", "qgab=d pgab=d fgu=gfu");

        sentence("first of the new one into D, then, if D is another, of D into the new one");
        added("fgu=u", "gfu=c");
        due("waiting", "fc=fu gu=c");
        anew();
        // It itself once: the one that is LOST is counted once.
        added("puqupuu=u");
        due("counts", "1 0 1");

        sentence("for l left, then right; for each for m left, then right; for each by subterms");
        added("fgu=gfv");
        due("waiting", "ggfu=fgv ffgu=gfv");
        anew();
        added("ffu=gfv");
        due("waiting", "fgfu=gfv ggfu=ffv");
        anew();
        added("pfugfv=d", "fa=b");
        due("waiting", "pbgfu=d pfugb=d");
    }

    private static void stepsAndTheGoal() {
        sentence("Then both sides of the goal, if there is one, are reduced by all active ones");
        added("fu=u");
        due("goal pfab=gfb", "IDLE");
        given("b=c");
        due("step", "ADDED");
        due("show 2 0", "6 pac=gc");
        anew();
        // 56 times are needed: 50 by goal, the others by the next step that adds one.
        added("fgu=gfu");
        due("goal " + f(8) + g(7) + "a=" + f(8) + g(7) + "b", "IDLE");
        String most = g(6) + f(6) + "gff";
        due("show 2 0", "33 " + most + "a=" + most + "b");
        given("c=c");
        due("step", "JUNK");
        due("show 2 0", "33 " + most + "a=" + most + "b");
        given("c=d");
        due("step", "ADDED");
        due("show 2 0", "33 " + g(7) + f(8) + "a=" + g(7) + f(8) + "b");

        sentence("it is PROVED if they are the same. ADDED, or PROVED.");
        given("fu=u");
        due("step", "ADDED");
        due("goal fga=gb", "IDLE");
        given("b=c");
        due("step", "ADDED");
        given("a=c");
        due("step", "PROVED");
        due("show 2 0", "5 gc=gc");
    }

    private static void promise1NewObject() {
        sentence("No text, no equations, no goal; the page is empty.");
        given("fa=b", "fc=d");
        due("step", "ADDED");
        due("goal a=b", "IDLE");
        text("pab");
        // None of that is in another object.
        anew();
        due("length", 0);
        due("charAt 0", "' '");
        due("wipe", 0);
        due("counts", "0 0 0");
        due("show 0 0", "IndexOutOfBoundsException");
        due("show 1 0", "IndexOutOfBoundsException");
        due("show 2 0", "IndexOutOfBoundsException");
        due("step", "IDLE");
        due("reduce", -1);
        due("reduce fa", "0 fa");
    }

    private static void promise2Type() {
        sentence("Appends a character to the text: true");
        due("type 112", true);
        due("type 97", true);
        due("type 98", true);
        due("reduce", "0 pab");

        sentence("false when c is not 32 .. 126");
        due("type 0", false);
        due("type 31", false);
        due("type 127", false);
        // 97 is a, if only eight bits are looked at.
        due("type 353", false);
        due("type 65535", false);
        due("wipe", 0);
        due("type 32", true);
        due("type 126", true);

        sentence("or there are 60");
        text("a=" + f(57));
        due("type 98", true);
        due("type 99", false);
        due("type 31", false);
        due("compare", 2);
        due("type 99", true);
    }

    private static void promise3Wipe() {
        sentence("The text is empty; how many characters it had.");
        due("wipe", 0);
        text("pa?");
        due("wipe", 3);
        due("wipe", 0);
        due("reduce b", "0 b");
        text(" ".repeat(60));
        due("wipe", 60);
        due("type 97", true);
        due("page", "b");
        due("reduce", "0 a");
    }

    private static void promise4Axiom() {
        sentence("Reads the text, which is empty then, as an equation, which, named, waits then: how many wait.");
        due("axiom pzy=z", 1);
        due("wipe", 0);
        due("axiom pzy=z", 2);
        due("axiom a=a", 3);
        due("waiting", "puv=u puv=u a=a");
    }

    private static void promise4AxiomRefused() {
        sentence("equation, which, named, waits then: how many wait. -1 - p with a fault p");
        due("axiom", -1);
        due("axiom =a", -1);
        due("axiom a", -2);
        due("axiom a=", -3);
        due("axiom a=b=", -4);
        due("axiom " + f(58) + "a=", -61);
        due("wipe", 0);
        due("axiom " + f(58) + "a?", -60);
        due("counts", "0 0 0");

        sentence("HEAVY if its weight is above 20.");
        due("axiom " + f(9) + "u=" + f(9) + "u", 1);
        due("axiom " + f(9) + "u=" + f(10) + "u", "HEAVY");
        due("axiom " + f(56) + "a=a", "HEAVY");
        due("wipe", 0);
        due("count 1", 1);

        sentence("IllegalState: 30 wait (the text stays).");
        for (int i = 1; i <= 30; i++) {
            due("axiom fa=b", i);
        }
        due("axiom c=d", "IllegalStateException");
        due("compare", 1);
        due("axiom", "IllegalStateException");
        due("axiom ??", "IllegalStateException");
        due("wipe", 2);
        due("axiom " + f(30) + "a=a", "IllegalStateException");
        due("wipe", 33);
        due("counts", "0 30 0");
        due("step", "ADDED");
        due("axiom c=d", 30);
    }

    private static void promise5Goal() {
        sentence("(there a variable is a fault)");
        due("goal u=a", -1);
        due("goal a=pau", -5);
        due("goal pza=a", -2);

        sentence("which is the goal then (in place of the one before)");
        due("goal a=a", "PROVED");
        due("wipe", 0);
        due("step", "PROVED");
        due("goal a=b", "IDLE");
        due("step", "IDLE");
        due("show 2 0", "3 a=b");

        sentence("both sides being reduced by all active ones: PROVED if they are the same then, else IDLE.");
        added("fu=u", "b=c");
        due("goal pfab=gfc", "IDLE");
        due("show 2 0", "6 pac=gc");
        due("goal fb=ffc", "PROVED");
        due("show 2 0", "3 c=c");
    }

    private static void promise5GoalRefused() {
        sentence("PROVED if they are the same then, else IDLE. -1 - p with a fault p");
        due("goal a=b", "IDLE");
        due("goal", -1);
        due("goal a", -2);
        due("goal a=", -3);
        due("goal a=aa", -4);
        due("goal a=a=", -4);
        due("goal ?", -1);
        due("wipe", 0);
        due("show 2 0", "3 a=b");

        sentence("HEAVY if a side's weight is above 20 (the goal stays).");
        due("goal " + f(20) + "a=a", "HEAVY");
        due("show 2 0", "IndexOutOfBoundsException");
        due("goal " + f(19) + "a=" + g(19) + "b", "IDLE");
        due("goal " + f(20) + "a=a", "HEAVY");
        due("goal a=" + f(20) + "a", "HEAVY");
        due("goal " + f(20) + "a=" + f(20) + "a", "HEAVY");
        due("wipe", 0);
        due("show 2 0", "41 " + f(19) + "a=" + g(19) + "b");
    }

    private static void promise6Step() {
        sentence("A STEP: IDLE, PROVED, ADDED, JUNK or FULL.");
        due("step", "IDLE");
        added("fu=u", "qaa=d", "qab=d", "qac=d", "qad=d", "qba=d", "qbb=d", "qbc=d", "qbd=d", "qca=d");
        given("fa=a", "qcb=d");
        due("step", "JUNK");
        due("step", "FULL");
        due("goal a=fa", "PROVED");
        due("step", "PROVED");
    }

    private static void promise7Steps() {
        sentence("So many steps, but none behind one that answers IDLE or PROVED: what the last one answers.");
        given("qaa=d", "qab=d", "a=a", "qac=d");
        due("steps 1", "JUNK");
        due("counts", "0 3 0");
        due("steps 2", "ADDED");
        due("counts", "2 1 0");
        due("steps 2", "IDLE");
        due("counts", "3 0 0");
        due("steps 20", "IDLE");
        given("a=a", "b=b", "qaa=d");
        due("steps 2", "JUNK");
        due("counts", "3 1 0");
        due("steps 1", "JUNK");
        given("b=c", "qad=d");
        due("goal b=c", "IDLE");
        due("steps 20", "PROVED");
        due("counts", "4 1 0");
        due("steps 1", "PROVED");
        due("counts", "4 1 0");
        anew();
        for (int i = 0; i < 21; i++) {
            given("q" + g(i % 7) + "a" + f(i / 7) + "a=d");
        }
        due("steps 20", "FULL");
        due("counts", "10 1 0");
        due("steps 1", "FULL");

        sentence("IllegalArgument: many is not 1 .. 20.");
        given("qaa=d");
        due("steps 0", "IllegalArgumentException");
        due("steps -1", "IllegalArgumentException");
        due("steps 21", "IllegalArgumentException");
        due("steps " + Integer.MIN_VALUE, "IllegalArgumentException");
        due("steps " + Integer.MAX_VALUE, "IllegalArgumentException");
        due("counts", "0 1 0");
        due("steps 1", "ADDED");
        due("steps 20", "IDLE");
    }

    private static void promise8Count() {
        sentence("0 active ones, 1 waiting ones, 2 that were LOST (all in all)");
        added("puqupuu=u");
        due("count 2", 1);
        given("a=d", "fa=a", "fb=b");
        due("step", "ADDED");
        due("count 0", 2);
        due("count 1", 2);
        due("count 2", 1);
        anew();
        added("gfu=ggpuu", "f" + g(13) + "a=d", "f" + g(14) + "a=d");
        due("count 2", 2);

        sentence("How many there are: 0 active ones, 1 waiting ones, 2 that were LOST (all in all)."
                + " IllegalArgument: what is not 0 .. 2.");
        due("count -1", "IllegalArgumentException");
        due("count 0", 0);
        due("count 2", 0);
        due("count 3", "IllegalArgumentException");
        due("count " + Integer.MIN_VALUE, "IllegalArgumentException");
        due("count " + Integer.MAX_VALUE, "IllegalArgumentException");
    }

    private static void promise9Show() {
        sentence("Writes on the page, instead of what was there, as text");
        due("reduce " + f(29) + "a", "0 " + f(29) + "a");
        given("fu=u");
        due("show 1 0", "4 fu=u");
        due("length", 4);
        due("charAt 4", "' '");

        sentence("what = 0 active equation i, 1 waiting one i from the one that has waited longest on, 2 the"
                + " goal as it is now (i does not matter). Answers how many characters.");
        added("fu=u", "gb=b");
        given("pab=a", "c=d");
        due("goal fc=fa", "IDLE");
        due("show 0 0", "4 fu=u");
        due("show 0 1", "4 gb=b");
        due("show 1 0", "5 pab=a");
        due("show 1 1", "3 c=d");
        due("show 2 0", "3 c=a");
        due("show 2 -1", "3 c=a");
        due("show 2 " + Integer.MIN_VALUE, "3 c=a");
        due("show 2 " + Integer.MAX_VALUE, "3 c=a");
        anew();
        // Both sides of a goal may grow up to 30.
        added("fu=" + g(11) + "u");
        due("goal f" + g(18) + "a=f" + g(18) + "b", "IDLE");
        due("show 2 0", "61 " + g(29) + "a=" + g(29) + "b");
        due("charAt 60", "'b'");
        due("charAt 61", "' '");
    }

    private static void promise9ShowRefused() {
        sentence("Answers how many characters. IllegalArgument: what is not 0 .. 2");
        given("fu=u");
        due("show 1 0", "4 fu=u");
        due("show -1 0", "IllegalArgumentException");
        due("show 3 0", "IllegalArgumentException");
        due("show 3 9", "IllegalArgumentException");
        due("show " + Integer.MIN_VALUE + " 0", "IllegalArgumentException");
        due("show " + Integer.MAX_VALUE + " -1", "IllegalArgumentException");
        due("page", "fu=u");

        sentence("IndexOutOfBounds: there is none such (no goal, too).");
        given("fu=u", "c=d");
        due("step", "ADDED");
        due("show 0 0", "3 c=d");
        due("show 0 1", "IndexOutOfBoundsException");
        due("show 0 -1", "IndexOutOfBoundsException");
        due("show 1 1", "IndexOutOfBoundsException");
        due("show 1 -1", "IndexOutOfBoundsException");
        due("show 1 " + Integer.MAX_VALUE, "IndexOutOfBoundsException");
        due("show 0 " + Integer.MIN_VALUE, "IndexOutOfBoundsException");
        due("show 2 0", "IndexOutOfBoundsException");
        due("page", "c=d");
    }

    private static void promise10Compare() {
        sentence("Reads the text, which is empty then, as an equation (of any weight; so for unify)");
        due("compare " + f(29) + "u=" + f(28) + "u", 1);
        due("wipe", 0);
        due("compare " + f(57) + "u=u", 1);
        due("compare u=" + f(57) + "u", 2);
        due("compare " + f(29) + "a=" + g(28) + "a", 1);
        due("unify u=" + f(57) + "v", "58 " + f(57) + "v");
        due("wipe", 0);

        sentence("1 if the left side is greater, 2 if the right one is, 3 if they are the same, 0 otherwise.");
        due("compare fu=u", 1);
        due("compare u=fu", 2);
        due("compare fu=fu", 3);
        due("compare fu=fv", 0);

        sentence("3 if they are the same, 0 otherwise. -1 - p with a fault p.");
        due("compare", -1);
        due("compare a", -2);
        due("compare u=", -3);
        due("compare u=v=", -4);
        due("compare " + f(58) + "a=", -61);
        due("wipe", 0);
    }

    private static void promise11Unify() {
        sentence("Reads the text, which is empty then, as an equation, and unifies both sides (whose variables"
                + " are the same ones)");
        due("unify pua=pbu", "NONE");
        due("unify pua=pau", "3 paa");
        due("wipe", 0);

        sentence("NONE if that fails or it has a weight above 60");
        due("unify pufu=pv" + f(29) + "a", "60 p" + f(28) + "a" + f(29) + "a");
        due("unify pufu=pv" + f(30) + "a", "NONE");
        due("unify puu=pv" + f(29) + "a", "NONE");
        due("unify pupuu=pvpv" + f(30) + "a", "NONE");
        due("length", 60);
        due("unify a=b", "NONE");

        sentence("(what is on the page stays then, so for all that write on it and don't)");
        due("unify u=gv", "2 gv");
        due("unify a=b", "NONE");
        due("page", "gv");
        due("unify puu=pv" + f(40) + "a", "NONE");
        due("page", "gv");
        due("show 0 0", "IndexOutOfBoundsException");
        due("show 3 0", "IllegalArgumentException");
        due("page", "gv");
        due("compare a=b", 1);
        due("goal a=b", "IDLE");
        due("axiom a=b", 1);
        due("step", "PROVED");
        due("page", "gv");

        sentence("-1 - p with a fault p. (The page stays with these.)");
        due("unify u=gv", "2 gv");
        due("unify", -1);
        due("unify a", -2);
        due("unify a=", -3);
        due("unify a=b=", -4);
        due("wipe", 0);
        due("page", "gv");
    }

    private static void promise12Reduce() {
        sentence("Reads the text, which is empty then, as a term, reduces it by all active ones, and writes it"
                + " on the page instead of what was there: how many times something was replaced.");
        added("fu=u", "b=c");
        due("reduce pfafb", "3 pac");
        due("wipe", 0);
        due("reduce v", "0 v");
        due("length", 1);

        sentence("how many times something was replaced. -1 - p with a fault p");
        due("reduce", -1);
        due("reduce pa", -3);
        due("reduce aa", -2);
        due("reduce a=a", -2);
        due("reduce " + f(60), -61);
        due("reduce " + f(59) + "?", -60);
        due("wipe", 0);

        sentence("HEAVY if its weight is above 30.");
        due("reduce " + f(29) + "a", "0 " + f(29) + "a");
        due("reduce " + g(30) + "a", "HEAVY");
        due("reduce " + g(59) + "a", "HEAVY");
        due("wipe", 0);

        sentence("HEAVY if its weight is above 30. (The page stays with these.)");
        due("reduce ga", "0 ga");
        due("reduce " + f(30) + "a", "HEAVY");
        due("page", "ga");
        due("reduce g", -2);
        due("page", "ga");
    }

    private static void promise13Length() {
        sentence("How many characters the page has.");
        due("length", 0);
        text("pab");
        due("length", 0);
        due("reduce", "0 pab");
        due("length", 3);
        due("unify u=v", "1 v");
        due("length", 1);
        given("a=u");
        due("show 1 0", "3 a=u");
        due("length", 3);
    }

    private static void promise14CharAt() {
        sentence("Character p of the page; a space when there is none.");
        due("charAt 0", "' '");
        due("reduce pab", "0 pab");
        due("charAt 0", "'p'");
        due("charAt 2", "'b'");
        due("charAt 3", "' '");
        due("charAt -1", "' '");
        due("charAt " + Integer.MIN_VALUE, "' '");
        due("charAt " + Integer.MAX_VALUE, "' '");
        due("reduce c", "0 c");
        due("charAt 0", "'c'");
        due("charAt 1", "' '");
        due("charAt 60", "' '");
        due("charAt 61", "' '");
    }
}
