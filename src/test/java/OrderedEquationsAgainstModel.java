import java.lang.reflect.InvocationTargetException;
import java.util.ArrayDeque;
import java.util.ArrayList;
import java.util.Arrays;
import java.util.HashMap;
import java.util.List;
import java.util.Map;
import java.util.Set;
import java.util.TreeMap;
import java.util.TreeSet;

/**
 * Runs of calls, told by a fixed number, on an object and on a model that follows the document word
 * by word over plain strings. The edges that the document names must all have been met in them.
 */
public final class OrderedEquationsAgainstModel {
    private static final int RUNS = 1500;
    private static final int MOST_CALLS = 512;
    /** The call, and a page of 61 with its length and a place before and behind it. */
    private static final int DEAREST_SHOW = 1 + 64;
    private static final int DEAREST_CALL = 60 + DEAREST_SHOW;
    private static final String[] EDGES = {
        "unify: signs differ", "unify: occurs", "unify: weight above 300", "unify: 301st pair",
        "unify: instance above 60", "reduce: 50 times", "reduce: passed over for weight 30",
        "overlap: instance above 30", "overlap: order", "overlap: replaced above 30",
        "overlap: heavy and against the order", "pair: same", "pair: more than six variables",
        "pair: above 20", "pair: alike active", "pair: alike waiting", "pair: 30 wait",
        "pair: waits", "step: IDLE", "step: PROVED before", "step: PROVED", "step: ADDED",
        "step: JUNK same", "step: JUNK weight", "step: JUNK alike", "step: JUNK alike turned",
        "step: FULL", "axiom: 30 wait",
    };

    private static long seed = 20261115L;
    private static final Map<String, Integer> MET = new TreeMap<>();

    private static void meet(String edge) {
        MET.merge(edge, 1, Integer::sum);
    }

    private static int pick(int n) {
        seed = seed * 6364136223846793005L + 1442695040888963407L;
        return (int) ((seed >>> 33) % n);
    }

    public static void main(String[] args) {
        int wrong = 0;
        for (int run = 0; run < RUNS && wrong < 5; run++) {
            wrong += new Run(run).play();
        }
        for (String edge : EDGES) {
            if (!MET.containsKey(edge)) {
                System.out.println("never met: " + edge);
                wrong++;
            }
        }
        for (String edge : MET.keySet()) {
            if (!Arrays.asList(EDGES).contains(edge)) {
                System.out.println("not in the list of edges: " + edge);
                wrong++;
            }
        }
        if (args.length > 0) {
            System.out.println(MET);
        }
        System.out.println(wrong == 0 ? "the model agrees in all runs" : wrong + " runs or edges are wrong");
        System.exit(wrong == 0 ? 0 : 1);
    }

    /** One run of calls, by turns on both. */
    private static final class Run {
        static final String[][] THEORIES = {
            {"pdu=u", "pfuu=d", "ppuvw=pupvw"},
            {"pud=u", "pufu=d", "ppuvw=pupvw", "ffu=u"},
            {"puv=pvu", "ppuvw=pupvw"},
            {"quv=qvu", "qquvw=quqvw", "quu=u"},
            {"puqvw=qpuvpuw", "pqvwu=qpvupwu", "quv=qvu"},
            {"fgu=u", "gfu=u", "fa=gb", "ffu=gu"},
            {"fpuv=pfvfu", "ffu=u", "puv=pvu"},
            {"puquv=u", "qupuv=u", "puv=pvu", "quv=qvu"},
            {"ppuvpwx=ppuwpvx", "puu=u"},
            {"fguv=a", "pfuv=pufv", "gfu=fgu", "ffu=fggu", "pgufv=qufu"},
            {"fu=quu", "gu=puu", "quv=puv"},
            {"puv=pwx", "quv=u", "pupvpwpxpyz=pzpypxpwpvu"},
            {"u=v", "fu=fv", "u=a", "fu=u"},
            {"pppuvwx=ppuvpwx", "qqquvwx=pupvpwx", "pqupvwx=qpuvpwx"},
            {"fu=pgugu", "gu=quu", "puv=quv"},
            {"pgua=qpuupuu", "puv=pvu", "pgguv=pvgu"},
            {"pqqguguupvpqvqvvw=d", "pupqguquupvqqvgvqvv=d"},
            {"pggququupvpqqvgvgvw=d", "pupqququuupvqqvvquv=d"},
            {"ggggggggggggggpuv=d", "puv=quqvquqvquqvquqvv"},
            {"fgu=gfu"},
        };
        static final String[] HARD_UNIFICATIONS = {
            "pupvpwpxpyz=pqvvpqwwpqxxpqyypqzzqaa",
            "pppppuvwxyz=pppppqvvqwwqxxqyyqzzqaa",
            "ppuvpwx=ppqvvqwwpqxxqyy",
            "pppuvwpxy=pppqvvqwwqxxpqyyqaa",
            "ppppuvwxppuvw=ppppqvvqwwqxxqyyppuvw",
            "pppuvwppxyz=ppqvvqqwwqwwqqaaqaappuvw",
            "ppppuvwxpyu=ppppqvvqwwqxxqaapqvvy",
            // The next two: values above 300, more than 300 pairs.
            "pzpypxw=pqqaaqaapqqzzqzzpqqyyqyyqqxxqxx",
            "pzpypxpwpwpww=pqqaaqaapqqzzqzzpqqyyqyypxpxpxx",
        };

        final OrderedEquations subject = new OrderedEquations();
        final Model model = new Model();
        final StringBuilder told = new StringBuilder();
        final int number;
        int calls = 0;
        boolean wrong = false;

        Run(int number) {
            this.number = number;
        }

        int play() {
            String[] theory = THEORIES[pick(THEORIES.length)];
            int flavour = pick(4);
            if (flavour < 3) {
                for (String axiom : theory) {
                    call("axiom", axiom);
                }
            }
            if (flavour == 1) {
                String[] more = THEORIES[pick(THEORIES.length)];
                for (String axiom : more) {
                    call("axiom", axiom);
                }
            }
            boolean eager = pick(3) == 0;
            while (!wrong && calls < MOST_CALLS - DEAREST_CALL) {
                turn(eager);
            }
            // The calls that are left tell what there is by now.
            for (int i = 0; !wrong && calls < MOST_CALLS - DEAREST_SHOW; i++) {
                call("show", null, i % 2, i / 2);
            }
            if (wrong) {
                System.out.println("run " + number + ":\n" + told);
            }
            return wrong ? 1 : 0;
        }

        void turn(boolean eager) {
            int which = pick(eager ? 12 : 17);
            if (which < 4) {
                call("step", null);
            } else if (which == 4) {
                call("steps", null, pick(24) - 1);
            } else if (which == 5) {
                call("reduce", term(pick(16) + 1, true));
            } else if (which == 6) {
                String s = term(pick(9) + 1, false);
                call("goal", s + "=" + (pick(3) == 0 ? shuffled(s) : term(pick(9) + 1, false)));
            } else if (which == 7) {
                call("show", null, pick(5) - 1, pick(12) - 1);
            } else if (which == 8) {
                call("count", null, pick(5) - 1);
            } else if (which < 12) {
                String s = term(pick(6) + 1, true);
                call("axiom", s + "=" + (pick(4) == 0 ? shuffled(s) : term(pick(5) + 1, true)));
            } else if (which == 12) {
                String s = term(pick(10) + 1, true);
                call("compare", s + "=" + (pick(2) == 0 ? shuffled(s) : term(pick(10) + 1, true)));
            } else if (which == 13) {
                call("unify", unification());
            } else if (which == 14) {
                String[] readers = {"axiom", "goal", "compare", "unify", "reduce"};
                call(readers[pick(5)], spoiled(term(pick(8) + 1, true) + "=" + term(pick(8), true)));
            } else if (which == 15) {
                call("wipe", term(pick(25) + 1, true));
            } else {
                call("reduce", pick(3) == 0 ? "ffffffffgggggggga" : term(28, pick(2) == 0));
            }
        }

        /** A term of some letters, more or less. */
        String term(int letters, boolean variables) {
            if (letters <= 1) {
                String leaves = variables ? "uvwxyzuvwuvabcd" : "abcd";
                return leaves.substring(pick(leaves.length())).substring(0, 1);
            }
            if (letters == 2 || pick(4) == 0) {
                return (pick(2) == 0 ? "f" : "g") + term(letters - 1, variables);
            }
            int left = 1 + pick(letters - 2);
            return (pick(3) > 0 ? "p" : "q") + term(left, variables) + term(letters - 1 - left, variables);
        }

        /** The same letters, arguments exchanged here and there. */
        String shuffled(String term) {
            List<String> arguments = Model.arguments(term);
            StringBuilder made = new StringBuilder(Model.isVariable(term) ? term : term.substring(0, 1));
            if (arguments.size() == 2 && pick(2) == 0) {
                arguments.add(arguments.remove(0));
            }
            for (String argument : arguments) {
                made.append(shuffled(argument));
            }
            return made.toString();
        }

        String unification() {
            if (pick(3) > 0) {
                return term(pick(14) + 1, true) + "=" + term(pick(14) + 1, true);
            }
            StringBuilder hard = new StringBuilder(HARD_UNIFICATIONS[pick(HARD_UNIFICATIONS.length)]);
            if (pick(2) == 0) {
                int at = pick(hard.length());
                if (Model.isVariable(hard.substring(at, at + 1))) {
                    hard.setCharAt(at, "uvwxyz".charAt(pick(6)));
                }
            }
            return hard.toString();
        }

        String spoiled(String text) {
            StringBuilder made = new StringBuilder(text);
            int at = pick(made.length());
            switch (pick(4)) {
                case 0:
                    made.deleteCharAt(at);
                    break;
                case 1:
                    made.setCharAt(at, (char) (30 + pick(100)));
                    break;
                case 2:
                    made.insert(at, "=pfu eA".charAt(pick(7)));
                    break;
                default:
                    made.setLength(at);
                    break;
            }
            return made.toString();
        }

        /** Types a text, makes a call on both, and compares the answers and what may have changed. */
        void call(String name, String text, int... arguments) {
            if (text != null) {
                for (char c : text.toCharArray()) {
                    boolean got = subject.type(c);
                    check("type " + c, got ? 1 : 0, model.type(c) ? 1 : 0);
                    calls++;
                }
            }
            String due = answer(model, name, arguments);
            String got = answer(subject, name, arguments);
            calls++;
            told.append(text == null ? "" : text + " ").append(name)
                    .append(Arrays.toString(arguments)).append(" -> ").append(got).append('\n');
            if (!got.equals(due)) {
                told.append("  due is ").append(due).append('\n');
                wrong = true;
            }
            if (name.equals("show") || name.equals("unify") || name.equals("reduce")) {
                checkPage();
            } else {
                checkCounts();
            }
        }

        void checkPage() {
            check("length", subject.length(), model.page.length());
            calls++;
            for (int p = -1; p <= model.page.length(); p++) {
                boolean there = p >= 0 && p < model.page.length();
                check("charAt " + p, subject.charAt(p), there ? model.page.charAt(p) : ' ');
                calls++;
            }
        }

        void checkCounts() {
            check("active", subject.count(0), model.active.size());
            check("waiting", subject.count(1), model.waiting.size());
            check("lost", subject.count(2), model.lost);
            calls += 3;
        }

        void check(String what, int got, int due) {
            if (got != due && !wrong) {
                told.append("  ").append(what).append(" is ").append(got).append(", due ").append(due).append('\n');
                wrong = true;
            }
        }

        /** By name, so that both, which share no type, are called alike. */
        static String answer(Object x, String name, int... arguments) {
            Class<?>[] kinds = new Class<?>[arguments.length];
            Object[] values = new Object[arguments.length];
            for (int i = 0; i < arguments.length; i++) {
                kinds[i] = int.class;
                values[i] = arguments[i];
            }
            try {
                return "" + x.getClass().getDeclaredMethod(name, kinds).invoke(x, values);
            } catch (InvocationTargetException e) {
                return e.getCause().getClass().getSimpleName();
            } catch (ReflectiveOperationException e) {
                throw new IllegalStateException(e);
            }
        }
    }

    /** The document over strings; U .. Z stand for the variables of the second equation. */
    private static final class Model {
        static final String ORDER = "pqfgabcd";

        String text = "";
        String page = "";
        final List<String[]> waiting = new ArrayList<>();
        final List<String[]> active = new ArrayList<>();
        String[] goal = null;
        int lost = 0;
        final Map<String, Boolean> known = new HashMap<>();

        boolean type(char c) {
            if (c < 32 || c > 126 || text.length() == 60) {
                return false;
            }
            text += c;
            return true;
        }

        int wipe() {
            int had = text.length();
            text = "";
            return had;
        }

        int axiom() {
            if (waiting.size() == 30) {
                meet("axiom: 30 wait");
                throw new IllegalStateException();
            }
            int fault = fault(text, true, true);
            String[] sides = take();
            if (fault >= 0) {
                return -1 - fault;
            }
            if (sides[0].length() + sides[1].length() > 20) {
                return -200;
            }
            waiting.add(named(sides));
            return waiting.size();
        }

        int goal() {
            int fault = fault(text, true, false);
            String[] sides = take();
            if (fault >= 0) {
                return -1 - fault;
            }
            if (sides[0].length() > 20 || sides[1].length() > 20) {
                return -200;
            }
            goal = new String[] {reduced(sides[0]), reduced(sides[1])};
            return goal[0].equals(goal[1]) ? 1 : 0;
        }

        int step() {
            if (goal != null && goal[0].equals(goal[1])) {
                meet("step: PROVED before");
                return 1;
            }
            if (waiting.isEmpty()) {
                meet("step: IDLE");
                return 0;
            }
            int least = 0;
            for (int i = 0; i < waiting.size(); i++) {
                if (weight(waiting.get(i)) < weight(waiting.get(least))) {
                    least = i;
                }
            }
            String[] taken = waiting.remove(least);
            String[] fresh = {reduced(taken[0]), reduced(taken[1])};
            if (fresh[0].equals(fresh[1])) {
                meet("step: JUNK same");
                return 3;
            }
            if (weight(fresh) > 20) {
                meet("step: JUNK weight");
                return 3;
            }
            fresh = named(fresh);
            for (String[] one : active) {
                if (alike(one, fresh)) {
                    meet(Arrays.equals(one, fresh) ? "step: JUNK alike" : "step: JUNK alike turned");
                    return 3;
                }
            }
            if (active.size() == 10) {
                meet("step: FULL");
                return 4;
            }
            active.add(fresh);
            for (String[] d : new ArrayList<>(active)) {
                overlaps(fresh, d);
                if (d != fresh) {
                    overlaps(d, fresh);
                }
            }
            if (goal != null) {
                goal = new String[] {reduced(goal[0]), reduced(goal[1])};
            }
            boolean proved = goal != null && goal[0].equals(goal[1]);
            meet(proved ? "step: PROVED" : "step: ADDED");
            return proved ? 1 : 2;
        }

        int steps(int many) {
            if (many < 1 || many > 20) {
                throw new IllegalArgumentException();
            }
            int answer = 2;
            for (int i = 0; i < many && answer >= 2; i++) {
                answer = step();
            }
            return answer;
        }

        int count(int what) {
            if (what < 0 || what > 2) {
                throw new IllegalArgumentException();
            }
            return what == 0 ? active.size() : what == 1 ? waiting.size() : lost;
        }

        int show(int what, int i) {
            if (what < 0 || what > 2) {
                throw new IllegalArgumentException();
            }
            if (what == 2 && goal == null) {
                throw new IndexOutOfBoundsException();
            }
            String[] shown = what == 2 ? goal : (what == 0 ? active : waiting).get(at(what, i));
            page = shown[0] + "=" + shown[1];
            return page.length();
        }

        int at(int what, int i) {
            if (i < 0 || i >= count(what)) {
                throw new IndexOutOfBoundsException();
            }
            return i;
        }

        int compare() {
            int fault = fault(text, true, true);
            String[] sides = take();
            if (fault >= 0) {
                return -1 - fault;
            }
            if (sides[0].equals(sides[1])) {
                return 3;
            }
            return greater(sides[0], sides[1]) ? 1 : greater(sides[1], sides[0]) ? 2 : 0;
        }

        int unify() {
            int fault = fault(text, true, true);
            String[] sides = take();
            if (fault >= 0) {
                return -1 - fault;
            }
            Map<String, String> values = unified(sides[0], sides[1]);
            if (values == null) {
                return -100;
            }
            if (instanceWeight(sides[0], values) > 60) {
                meet("unify: instance above 60");
                return -100;
            }
            page = instance(sides[0], values);
            return page.length();
        }

        int times;

        int reduce() {
            int fault = fault(text, false, true);
            String term = take()[0];
            if (fault >= 0) {
                return -1 - fault;
            }
            if (term.length() > 30) {
                return -200;
            }
            page = reduced(term);
            return times;
        }

        String[] take() {
            String[] sides = text.split("=", -1);
            text = "";
            return sides;
        }

        /** By trying each beginning: whether anything can follow so that it is one. */
        static int fault(String text, boolean equation, boolean variables) {
            for (int n = 1; n <= text.length(); n++) {
                if (!isBeginning(text.substring(0, n), equation, variables)) {
                    return n - 1;
                }
            }
            boolean whole = equation
                    ? text.indexOf('=') > 0 && missing(text.substring(0, text.indexOf('='))) == 0
                            && missing(text.substring(text.indexOf('=') + 1)) == 0
                    : missing(text) == 0;
            return whole ? -1 : text.length();
        }

        static boolean isBeginning(String text, boolean equation, boolean variables) {
            for (char c : text.toCharArray()) {
                String good = ORDER + (variables ? "uvwxyz" : "") + (equation ? "=" : "");
                if (good.indexOf(c) < 0) {
                    return false;
                }
            }
            int sign = text.indexOf('=');
            if (sign < 0) {
                return missing(text) >= 0;
            }
            String right = text.substring(sign + 1);
            return missing(text.substring(0, sign)) == 0 && right.indexOf('=') < 0 && missing(right) >= 0;
        }

        /** How many terms are missing behind these letters to make one; below 0 if it ended before. */
        static int missing(String letters) {
            int missing = 1;
            for (int i = 0; i < letters.length(); i++) {
                if (missing == 0) {
                    return -1;
                }
                missing += arity(letters.charAt(i)) - 1;
            }
            return missing;
        }

        static int arity(char c) {
            return c == 'p' || c == 'q' ? 2 : c == 'f' || c == 'g' ? 1 : 0;
        }

        static boolean isVariable(String term) {
            return term.length() == 1 && "uvwxyzUVWXYZ".contains(term);
        }

        static int weight(String[] sides) {
            return sides[0].length() + sides[1].length();
        }

        /** The subterm that begins at a place. */
        static String subterm(String term, int at) {
            int end = at + 1;
            while (missing(term.substring(at, end)) != 0) {
                end++;
            }
            return term.substring(at, end);
        }

        static List<String> arguments(String term) {
            List<String> found = new ArrayList<>();
            int at = 1;
            for (int k = arity(term.charAt(0)); k > 0; k--) {
                found.add(subterm(term, at));
                at += found.get(found.size() - 1).length();
            }
            return found;
        }

        boolean greater(String s, String t) {
            String key = s + ">" + t;
            if (!known.containsKey(key)) {
                if (known.size() > 200000) {
                    known.clear();
                }
                known.put(key, greaterByWords(s, t));
            }
            return known.get(key);
        }

        boolean greaterByWords(String s, String t) {
            if (isVariable(t)) {
                return s.contains(t) && !s.equals(t);
            }
            if (isVariable(s)) {
                return false;
            }
            List<String> ofS = arguments(s);
            List<String> ofT = arguments(t);
            for (String argument : ofS) {
                if (argument.equals(t) || greater(argument, t)) {
                    return true;
                }
            }
            for (String argument : ofT) {
                if (!greater(s, argument)) {
                    return false;
                }
            }
            int signS = ORDER.indexOf(s.charAt(0));
            int signT = ORDER.indexOf(t.charAt(0));
            if (signS != signT) {
                return signS < signT;
            }
            for (int i = 0; i < ofS.size(); i++) {
                if (!ofS.get(i).equals(ofT.get(i))) {
                    return greater(ofS.get(i), ofT.get(i));
                }
            }
            return false;
        }

        static String[] named(String[] sides) {
            Map<String, String> names = new HashMap<>();
            String both = sides[0] + "=" + sides[1];
            StringBuilder made = new StringBuilder();
            for (char c : both.toCharArray()) {
                String letter = "" + c;
                if (isVariable(letter) && !names.containsKey(letter)) {
                    names.put(letter, "" + "uvwxyzUVWXYZ".charAt(names.size()));
                }
                made.append(names.getOrDefault(letter, letter));
            }
            return made.toString().split("=");
        }

        static boolean alike(String[] one, String[] other) {
            return Arrays.equals(one, other) || Arrays.equals(one, named(new String[] {other[1], other[0]}));
        }

        static Set<String> variables(String letters) {
            Set<String> found = new TreeSet<>();
            for (char c : letters.toCharArray()) {
                if (isVariable("" + c)) {
                    found.add("" + c);
                }
            }
            return found;
        }

        static String instance(String term, Map<String, String> values) {
            StringBuilder made = new StringBuilder();
            for (char c : term.toCharArray()) {
                String letter = "" + c;
                made.append(values.containsKey(letter) ? instance(values.get(letter), values) : letter);
            }
            return made.toString();
        }

        static long instanceWeight(String term, Map<String, String> values) {
            long weight = 0;
            for (char c : term.toCharArray()) {
                String letter = "" + c;
                weight += values.containsKey(letter) ? instanceWeight(values.get(letter), values) : 1;
            }
            return weight;
        }

        static boolean occurs(String variable, String term, Map<String, String> values) {
            for (String other : variables(term)) {
                if (other.equals(variable)
                        || values.containsKey(other) && occurs(variable, values.get(other), values)) {
                    return true;
                }
            }
            return false;
        }

        static String looked(String term, Map<String, String> values) {
            return values.containsKey(term) ? looked(values.get(term), values) : term;
        }

        /** The values, or null if it fails. */
        static Map<String, String> unified(String s, String t) {
            Map<String, String> values = new HashMap<>();
            ArrayDeque<String[]> pairs = new ArrayDeque<>();
            pairs.push(new String[] {s, t});
            for (int n = 1; !pairs.isEmpty(); n++) {
                if (n == 301) {
                    meet("unify: 301st pair");
                    return null;
                }
                String[] pair = pairs.pop();
                String first = looked(pair[0], values);
                String second = looked(pair[1], values);
                if (isVariable(first) && first.equals(second)) {
                    continue;
                }
                if (isVariable(first) || isVariable(second)) {
                    String variable = isVariable(first) ? first : second;
                    String value = isVariable(first) ? second : first;
                    if (occurs(variable, value, values)) {
                        meet("unify: occurs");
                        return null;
                    }
                    if (instanceWeight(value, values) > 300) {
                        meet("unify: weight above 300");
                        return null;
                    }
                    values.put(variable, value);
                    continue;
                }
                if (first.charAt(0) != second.charAt(0)) {
                    meet("unify: signs differ");
                    return null;
                }
                List<String> ofFirst = arguments(first);
                List<String> ofSecond = arguments(second);
                for (int i = ofFirst.size() - 1; i >= 0; i--) {
                    pairs.push(new String[] {ofFirst.get(i), ofSecond.get(i)});
                }
            }
            return values;
        }

        /** What is put in for l's variables so that it becomes t, or null. */
        static Map<String, String> matched(String l, String t) {
            Map<String, String> values = new HashMap<>();
            return matched(l, t, values) ? values : null;
        }

        static boolean matched(String l, String t, Map<String, String> values) {
            if (isVariable(l)) {
                return t.equals(values.computeIfAbsent(l, k -> t));
            }
            if (l.charAt(0) != t.charAt(0)) {
                return false;
            }
            List<String> ofL = arguments(l);
            List<String> ofT = arguments(t);
            for (int i = 0; i < ofL.size(); i++) {
                if (!matched(ofL.get(i), ofT.get(i), values)) {
                    return false;
                }
            }
            return true;
        }

        /** One letter after the other, as the values' variables are not those of the equation. */
        static String putIn(String term, Map<String, String> values) {
            StringBuilder made = new StringBuilder();
            for (char c : term.toCharArray()) {
                made.append(values.getOrDefault("" + c, "" + c));
            }
            return made.toString();
        }

        String reduced(String term) {
            String now = term;
            for (times = 0; times < 50; times++) {
                String next = replaced(now);
                if (next == null) {
                    return now;
                }
                now = next;
            }
            meet("reduce: 50 times");
            return now;
        }

        String replaced(String term) {
            for (int at = 0; at < term.length(); at++) {
                String t = subterm(term, at);
                for (String[] equation : active) {
                    for (int side = 0; side < 2; side++) {
                        String l = equation[side];
                        String r = equation[1 - side];
                        Map<String, String> values = matched(l, t);
                        if (values == null || !variables(l).containsAll(variables(r))) {
                            continue;
                        }
                        String becomes = putIn(r, values);
                        if (becomes.length() > 300 || !greater(t, becomes)) {
                            continue;
                        }
                        String whole = term.substring(0, at) + becomes + term.substring(at + t.length());
                        if (whole.length() <= 30) {
                            return whole;
                        }
                        meet("reduce: passed over for weight 30");
                    }
                }
            }
            return null;
        }

        void overlaps(String[] a, String[] b) {
            for (int l = 0; l < 2; l++) {
                for (int m = 0; m < 2; m++) {
                    for (int at = 0; at < b[m].length(); at++) {
                        boolean itself = a == b && l == m && at == 0;
                        if (!itself && !isVariable(b[m].substring(at, at + 1))) {
                            overlap(a[l], a[1 - l], others(b[m]), others(b[1 - m]), at);
                        }
                    }
                }
            }
        }

        static String others(String term) {
            StringBuilder made = new StringBuilder();
            for (char c : term.toCharArray()) {
                made.append(isVariable("" + c) ? Character.toUpperCase(c) : c);
            }
            return made.toString();
        }

        void overlap(String l, String r, String m, String n, int at) {
            Map<String, String> values = unified(subterm(m, at), l);
            if (values == null) {
                return;
            }
            boolean heavy = false;
            for (String term : new String[] {l, r, m, n}) {
                heavy |= instanceWeight(term, values) > 30;
            }
            String il = instance(l, values);
            String ir = instance(r, values);
            String im = instance(m, values);
            String in = instance(n, values);
            boolean light = il.length() + ir.length() + im.length() + in.length() < 400;
            boolean against = light && (ir.equals(il) || greater(ir, il) || in.equals(im) || greater(in, im));
            if (heavy) {
                meet(against ? "overlap: heavy and against the order" : "overlap: instance above 30");
                lost++;
                return;
            }
            if (against) {
                meet("overlap: order");
                return;
            }
            int before = instance(m.substring(0, at), values).length();
            String whole = im.substring(0, before) + ir + im.substring(before + il.length());
            if (whole.length() > 30) {
                meet("overlap: replaced above 30");
                lost++;
                return;
            }
            newPair(reduced(whole), reduced(in));
        }

        void newPair(String s, String t) {
            if (s.equals(t)) {
                meet("pair: same");
                return;
            }
            String[] pair = {s, t};
            boolean many = variables(s + t).size() > 6;
            if (many || weight(pair) > 20) {
                meet(many ? "pair: more than six variables" : "pair: above 20");
                lost++;
                return;
            }
            pair = named(pair);
            for (String[] one : active) {
                if (alike(one, pair)) {
                    meet("pair: alike active");
                    return;
                }
            }
            for (String[] one : waiting) {
                if (alike(one, pair)) {
                    meet("pair: alike waiting");
                    return;
                }
            }
            if (waiting.size() == 30) {
                meet("pair: 30 wait");
                lost++;
                return;
            }
            meet("pair: waits");
            waiting.add(pair);
        }
    }
}
