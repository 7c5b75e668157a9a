import java.util.Arrays;

/**
 * Equations between terms are taken up one after the other, overlapped with those that were taken
 * up before, and used to reduce terms by an order, until both sides of a goal become the same.
 *
 * <p>Inside, a letter is a code: 0 .. 5 are the variables u .. z, 6 .. 11 those of the second
 * equation of an overlap, and from 12 on stand the signs from the least to the greatest, so that
 * codes tell kinds, arguments and the order of signs by their size alone. All rows are made once,
 * with the object: no call makes anything but the exception that it throws.
 */
public final class OrderedEquations {
    public static final int IDLE = 0;
    public static final int PROVED = 1;
    public static final int ADDED = 2;
    public static final int JUNK = 3;
    public static final int FULL = 4;
    public static final int NONE = -100;
    public static final int HEAVY = -200;

    private static final int MOST_TEXT = 60;
    private static final int MOST_WAITING = 30;
    private static final int MOST_ACTIVE = 10;
    private static final int MOST_STEPS = 20;
    private static final int MOST_REPLACED = 50;
    private static final int MOST_PAIRS = 300;
    private static final int MOST_WRITTEN = 60;
    private static final int HEAVIEST_VALUE = 300;
    private static final int HEAVIEST_TERM = 30;
    private static final int HEAVIEST_EQUATION = 20;
    private static final int HEAVIEST_GOAL_SIDE = 20;

    private static final String VARIABLE_LETTERS = "uvwxyz";
    private static final String SIGN_LETTERS = "dcbagfqp";
    private static final int NAMES = 6;
    private static final int VARIABLES = 2 * NAMES;
    private static final int FIRST_WITH_ONE_ARGUMENT = VARIABLES + 4;
    private static final int FIRST_WITH_TWO_ARGUMENTS = VARIABLES + 6;

    private static final int NO_FAULT = -1;
    private static final int NOWHERE = -1;

    private static final int NOTHING = 0;
    private static final int LOST = 1;
    private static final int NEW_PAIR = 2;

    private final char[] text = new char[MOST_TEXT];
    private int textLength = 0;
    private final char[] page = new char[2 * HEAVIEST_TERM + 1];
    private int pageLength = 0;
    private final Waiting waiting = new Waiting();
    private final Actives actives = new Actives();
    private final Overlap overlap = new Overlap();
    private int lost = 0;
    private final Equation target = new Equation(HEAVIEST_TERM);
    private boolean hasTarget = false;
    private final Equation read = new Equation(MOST_TEXT);
    private final Equation taken = new Equation(HEAVIEST_TERM);
    private final Equation turned = new Equation(HEAVIEST_TERM);
    private final int[] names = new int[VARIABLES];

    public OrderedEquations() {
    }

    public boolean type(char c) {
        if (c < 32 || c > 126 || textLength >= MOST_TEXT) {
            return false;
        }
        text[textLength] = c;
        textLength++;
        return true;
    }

    public int wipe() {
        int had = textLength;
        textLength = 0;
        return had;
    }

    public int axiom() throws IllegalStateException {
        if (waiting.isFull()) {
            throw new IllegalStateException("30 equations wait");
        }
        int fault = readText(true, true);
        if (fault != NO_FAULT) {
            return -1 - fault;
        }
        if (read.weight() > HEAVIEST_EQUATION) {
            return HEAVY;
        }
        read.nameVariables(names);
        waiting.append(read);
        return waiting.number;
    }

    public int goal() {
        int fault = readText(true, false);
        if (fault != NO_FAULT) {
            return -1 - fault;
        }
        if (read.left.weight > HEAVIEST_GOAL_SIDE || read.right.weight > HEAVIEST_GOAL_SIDE) {
            return HEAVY;
        }
        target.become(read.left, read.right);
        hasTarget = true;
        lower(target);
        return isProved() ? PROVED : IDLE;
    }

    public int step() {
        return takeStep();
    }

    public int steps(int many) throws IllegalArgumentException {
        if (many < 1 || many > MOST_STEPS) {
            throw new IllegalArgumentException("not 1 .. 20 steps");
        }
        int answer = takeStep();
        for (int i = 1; i < many && answer != IDLE && answer != PROVED; i++) {
            answer = takeStep();
        }
        return answer;
    }

    public int count(int what) throws IllegalArgumentException {
        switch (what) {
            case 0:
                return actives.number;
            case 1:
                return waiting.number;
            case 2:
                return lost;
            default:
                throw new IllegalArgumentException("not 0 .. 2");
        }
    }

    public int show(int what, int i) throws IllegalArgumentException, IndexOutOfBoundsException {
        if (what < 0 || what > 2) {
            throw new IllegalArgumentException("not 0 .. 2");
        }
        Equation shown = equationAt(what, i);
        if (shown == null) {
            throw new IndexOutOfBoundsException("there is none such");
        }
        pageLength = 0;
        write(shown.left);
        page[pageLength] = '=';
        pageLength++;
        write(shown.right);
        return pageLength;
    }

    public int compare() {
        int fault = readText(true, true);
        if (fault != NO_FAULT) {
            return -1 - fault;
        }
        if (read.sidesAreSame()) {
            return 3;
        }
        if (Letters.isGreater(read.left, 0, read.right, 0, 0)) {
            return 1;
        }
        return Letters.isGreater(read.right, 0, read.left, 0, 0) ? 2 : 0;
    }

    public int unify() {
        int fault = readText(true, true);
        if (fault != NO_FAULT) {
            return -1 - fault;
        }
        Unifier unifier = overlap.unifier;
        unifier.forget();
        int left = unifier.load(read.left, 0);
        int right = unifier.load(read.right, 0);
        // The left side has been read, so what it becomes may stand in its place.
        if (!unifier.solve(left, right) || !unifier.writeInstance(left, read.left, MOST_WRITTEN)) {
            return NONE;
        }
        pageLength = 0;
        write(read.left);
        return pageLength;
    }

    public int reduce() {
        int fault = readText(false, true);
        if (fault != NO_FAULT) {
            return -1 - fault;
        }
        if (read.left.weight > HEAVIEST_TERM) {
            return HEAVY;
        }
        int times = actives.lower(read.left);
        pageLength = 0;
        write(read.left);
        return times;
    }

    public int length() {
        return pageLength;
    }

    public char charAt(int p) {
        return p < 0 || p >= pageLength ? ' ' : page[p];
    }

    private static boolean isVariable(int code) {
        return code < VARIABLES;
    }

    private static int argumentsOf(int code) {
        if (code >= FIRST_WITH_TWO_ARGUMENTS) {
            return 2;
        }
        return code >= FIRST_WITH_ONE_ARGUMENT ? 1 : 0;
    }

    private static int codeOf(char letter) {
        int variable = VARIABLE_LETTERS.indexOf(letter);
        if (variable >= 0) {
            return variable;
        }
        int sign = SIGN_LETTERS.indexOf(letter);
        return sign < 0 ? NOWHERE : VARIABLES + sign;
    }

    private static char letterOf(int code) {
        return isVariable(code)
                ? VARIABLE_LETTERS.charAt(code % NAMES)
                : SIGN_LETTERS.charAt(code - VARIABLES);
    }

    /** Reads and empties the text; its fault, or NO_FAULT: then `read` holds what it is. */
    private int readText(boolean asEquation, boolean withVariables) {
        int end = textLength;
        textLength = 0;
        read.left.empty();
        read.right.empty();
        boolean onRight = false;
        int missing = 1;
        for (int i = 0; i < end; i++) {
            if (missing == 0) {
                if (!asEquation || onRight || text[i] != '=') {
                    return i;
                }
                onRight = true;
                missing = 1;
                continue;
            }
            int code = codeOf(text[i]);
            if (code == NOWHERE || !withVariables && isVariable(code)) {
                return i;
            }
            (onRight ? read.right : read.left).append(code);
            missing += argumentsOf(code) - 1;
        }
        if (missing > 0 || asEquation && !onRight) {
            return end;
        }
        read.left.close();
        read.right.close();
        return NO_FAULT;
    }

    private void write(Letters term) {
        for (int i = 0; i < term.weight && pageLength < page.length; i++) {
            page[pageLength] = letterOf(term.codes[i]);
            pageLength++;
        }
    }

    /** The equation that show is asked for, or null if there is none such. */
    private Equation equationAt(int what, int i) {
        if (what == 2) {
            return hasTarget ? target : null;
        }
        int number = what == 0 ? actives.number : waiting.number;
        if (i < 0 || i >= number) {
            return null;
        }
        return what == 0 ? actives.rows[i] : waiting.rows[i];
    }

    /** A goal's sides are kept reduced, so nothing but their being the same is PROVED. */
    private boolean isProved() {
        return hasTarget && target.sidesAreSame();
    }

    private void lower(Equation equation) {
        actives.lower(equation.left);
        actives.lower(equation.right);
    }

    private int takeStep() {
        if (isProved()) {
            return PROVED;
        }
        if (waiting.number == 0) {
            return IDLE;
        }
        waiting.removeLightest(taken);
        lower(taken);
        if (taken.sidesAreSame() || taken.weight() > HEAVIEST_EQUATION) {
            return JUNK;
        }
        nameBothWays(taken);
        if (hasAlike(actives.rows, actives.number, taken)) {
            return JUNK;
        }
        if (actives.isFull()) {
            return FULL;
        }
        actives.append(taken);
        overlapAll(actives.number - 1);
        if (hasTarget) {
            lower(target);
        }
        return isProved() ? PROVED : ADDED;
    }

    /** Names it, and leaves in `turned` what it becomes with its sides exchanged. */
    private int nameBothWays(Equation equation) {
        int variables = equation.nameVariables(names);
        turned.become(equation.right, equation.left);
        turned.nameVariables(names);
        return variables;
    }

    private boolean hasAlike(Equation[] rows, int number, Equation named) {
        for (int i = 0; i < number && i < rows.length; i++) {
            if (rows[i].isSameAs(named) || rows[i].isSameAs(turned)) {
                return true;
            }
        }
        return false;
    }

    private void overlapAll(int fresh) {
        for (int d = 0; d <= fresh; d++) {
            // Turns 0 .. 3 are of the new one into D, 4 .. 7 of D into the new one.
            int turns = d == fresh ? 4 : 8;
            for (int turn = 0; turn < turns; turn++) {
                int a = turn < 4 ? fresh : d;
                int b = turn < 4 ? d : fresh;
                int sideOfA = turn / 2 % 2;
                int sideOfB = turn % 2;
                int first = a == b && sideOfA == sideOfB ? 1 : 0;
                Equation into = actives.rows[b];
                for (int at = first; at < into.side(sideOfB).weight; at++) {
                    keep(overlap.workOut(actives.rows[a], sideOfA, into, sideOfB, at));
                }
            }
        }
    }

    /** Lets a new pair, which stands in the overlap, wait if it is worth it. */
    private void keep(int outcome) {
        if (outcome == LOST) {
            lost++;
        }
        if (outcome != NEW_PAIR) {
            return;
        }
        Equation pair = overlap.pair;
        actives.lower(pair.left);
        actives.lower(pair.right);
        if (pair.sidesAreSame()) {
            return;
        }
        int variables = nameBothWays(pair);
        if (variables > NAMES || pair.weight() > HEAVIEST_EQUATION) {
            lost++;
            return;
        }
        if (hasAlike(actives.rows, actives.number, pair)
                || hasAlike(waiting.rows, waiting.number, pair)) {
            return;
        }
        if (waiting.isFull()) {
            lost++;
            return;
        }
        waiting.append(pair);
    }

    /** The letters of a term, or of several in a row, from the first one on. */
    private static final class Letters {
        final int[] codes;
        /** For each place, the place behind the subterm that begins there. */
        final int[] ends;
        int weight = 0;

        Letters(int most) {
            codes = new int[most];
            ends = new int[most];
        }

        void empty() {
            weight = 0;
        }

        void append(int code) {
            if (weight < codes.length) {
                codes[weight] = code;
                weight++;
            }
        }

        /** Appends the letters of another, its variables being made those `shift` behind them. */
        void appendAll(Letters other, int shift) {
            for (int i = 0; i < other.weight; i++) {
                int code = other.codes[i];
                append(isVariable(code) ? code + shift : code);
            }
        }

        /** Finds the ends, when letters have come: from the right, as arguments stand there. */
        void close() {
            for (int i = weight - 1; i >= 0; i--) {
                int end = i + 1;
                if (codes[i] >= FIRST_WITH_ONE_ARGUMENT && end < weight) {
                    end = ends[end];
                }
                if (codes[i] >= FIRST_WITH_TWO_ARGUMENTS && end < weight) {
                    end = ends[end];
                }
                ends[i] = end;
            }
        }

        void become(Letters other) {
            if (other.weight <= codes.length) {
                System.arraycopy(other.codes, 0, codes, 0, other.weight);
                System.arraycopy(other.ends, 0, ends, 0, other.weight);
                weight = other.weight;
            }
        }

        /** Puts another term in place of the subterm that begins at a place. */
        void replace(int at, Letters by) {
            int end = ends[at];
            int grown = at + by.weight + weight - end;
            if (grown > codes.length) {
                return;
            }
            System.arraycopy(codes, end, codes, at + by.weight, weight - end);
            System.arraycopy(by.codes, 0, codes, at, by.weight);
            weight = grown;
            close();
        }

        /** Whether a letter is among those from a place on, up to another. */
        boolean holds(int code, int from, int to) {
            for (int i = from; i < to; i++) {
                if (codes[i] == code) {
                    return true;
                }
            }
            return false;
        }

        /** Whether all variables of another occur here. */
        boolean holdsVariablesOf(Letters other) {
            for (int i = 0; i < other.weight; i++) {
                if (isVariable(other.codes[i]) && !holds(other.codes[i], 0, weight)) {
                    return false;
                }
            }
            return true;
        }

        /** Gives the variables new names in turn; how many have been given, with `given` before. */
        int rename(int[] names, int given) {
            int used = given;
            for (int i = 0; i < weight; i++) {
                int code = codes[i];
                if (!isVariable(code)) {
                    continue;
                }
                if (names[code] == NOWHERE) {
                    names[code] = used;
                    used++;
                }
                codes[i] = names[code];
            }
            return used;
        }

        static boolean isSame(Letters s, int i, Letters t, int j) {
            int weight = s.ends[i] - i;
            if (t.ends[j] - j != weight) {
                return false;
            }
            for (int k = 0; k < weight; k++) {
                if (s.codes[i + k] != t.codes[j + k]) {
                    return false;
                }
            }
            return true;
        }

        /**
         * Whether the subterm of s at i is greater than that of t at j. The order is transitive and
         * a term is greater than its subterms. So, behind the first arguments that differ, only
         * the later ones still matter: those of t if the sign or that argument of s is greater
         * (an argument of s that is t or greater than t makes s greater than them all, too), else
         * those of s. No two subterms are then compared twice.
         */
        private static boolean isGreater(Letters s, int i, Letters t, int j, int depth) {
            int sign = s.codes[i];
            int other = t.codes[j];
            if (isVariable(other)) {
                return sign != other && s.holds(other, i, s.ends[i]);
            }
            // A level goes down in s or in t, which have no more than 60 letters together.
            if (isVariable(sign) || depth > MOST_TEXT) {
                return false;
            }
            boolean ahead = sign > other;
            int ofS = i + 1;
            int ofT = j + 1;
            int done = 0;
            if (sign == other) {
                for (; done < argumentsOf(sign) && isSame(s, ofS, t, ofT); done++) {
                    ofS = s.ends[ofS];
                    ofT = t.ends[ofT];
                }
                if (done == argumentsOf(sign)) {
                    return false;
                }
                ahead = isGreater(s, ofS, t, ofT, depth + 1);
                ofS = s.ends[ofS];
                ofT = t.ends[ofT];
                done++;
            }
            for (int k = done; ahead && k < argumentsOf(other); k++) {
                if (!isGreater(s, i, t, ofT, depth + 1)) {
                    return false;
                }
                ofT = t.ends[ofT];
            }
            for (int k = done; !ahead && k < argumentsOf(sign); k++) {
                if (isSame(s, ofS, t, j) || isGreater(s, ofS, t, j, depth + 1)) {
                    return true;
                }
                ofS = s.ends[ofS];
            }
            return ahead;
        }
    }

    private static final class Equation {
        final Letters left;
        final Letters right;

        Equation(int heaviestSide) {
            left = new Letters(heaviestSide);
            right = new Letters(heaviestSide);
        }

        Letters side(int which) {
            return which == 0 ? left : right;
        }

        int weight() {
            return left.weight + right.weight;
        }

        void become(Letters newLeft, Letters newRight) {
            left.become(newLeft);
            right.become(newRight);
        }

        boolean sidesAreSame() {
            return Letters.isSame(left, 0, right, 0);
        }

        boolean isSameAs(Equation other) {
            return Letters.isSame(left, 0, other.left, 0) && Letters.isSame(right, 0, other.right, 0);
        }

        /** How many variables there are. */
        int nameVariables(int[] names) {
            Arrays.fill(names, NOWHERE);
            return right.rename(names, left.rename(names, 0));
        }
    }

    /** The waiting equations, from the one that has waited longest on. */
    private static final class Waiting {
        final Equation[] rows = new Equation[MOST_WAITING];
        int number = 0;

        Waiting() {
            for (int i = 0; i < rows.length; i++) {
                rows[i] = new Equation(HEAVIEST_EQUATION);
            }
        }

        boolean isFull() {
            return number >= rows.length;
        }

        void append(Equation equation) {
            if (!isFull()) {
                rows[number].become(equation.left, equation.right);
                number++;
            }
        }

        void removeLightest(Equation into) {
            if (number == 0) {
                return;
            }
            int lightest = 0;
            for (int i = 1; i < number; i++) {
                if (rows[i].weight() < rows[lightest].weight()) {
                    lightest = i;
                }
            }
            Equation freed = rows[lightest];
            into.become(freed.left, freed.right);
            number--;
            for (int i = lightest; i < number; i++) {
                rows[i] = rows[i + 1];
            }
            rows[number] = freed;
        }
    }

    /** The active equations, and reducing by them. */
    private static final class Actives {
        final Equation[] rows = new Equation[MOST_ACTIVE];
        int number = 0;
        /** For side k of equation i, at 2 i + k: all variables of the other side occur in it. */
        private final boolean[] binds = new boolean[2 * MOST_ACTIVE];
        /** Where in the matched term the value of each variable begins. */
        private final int[] boundAt = new int[VARIABLES];
        private final Letters replacement = new Letters(HEAVIEST_TERM);

        Actives() {
            for (int i = 0; i < rows.length; i++) {
                rows[i] = new Equation(HEAVIEST_EQUATION);
            }
        }

        boolean isFull() {
            return number >= rows.length;
        }

        void append(Equation equation) {
            if (isFull()) {
                return;
            }
            Equation row = rows[number];
            row.become(equation.left, equation.right);
            binds[2 * number] = row.left.holdsVariablesOf(row.right);
            binds[2 * number + 1] = row.right.holdsVariablesOf(row.left);
            number++;
        }

        /** Reduces a term; how many times something was replaced. */
        int lower(Letters term) {
            for (int times = 0; times < MOST_REPLACED; times++) {
                boolean replaced = false;
                for (int at = 0; at < term.weight && !replaced; at++) {
                    replaced = replaceAt(term, at);
                }
                if (!replaced) {
                    return times;
                }
            }
            return MOST_REPLACED;
        }

        private boolean replaceAt(Letters term, int at) {
            int room = HEAVIEST_TERM - term.weight + term.ends[at] - at;
            for (int k = 0; k < 2 * number; k++) {
                Equation row = rows[k / 2];
                if (binds[k]
                        && matches(row.side(k % 2), term, at)
                        && fill(row.side(1 - k % 2), term, room)
                        && Letters.isGreater(term, at, replacement, 0, 0)) {
                    term.replace(at, replacement);
                    return true;
                }
            }
            return false;
        }

        private boolean matches(Letters side, Letters term, int at) {
            Arrays.fill(boundAt, NOWHERE);
            int place = at;
            for (int i = 0; i < side.weight; i++) {
                int code = side.codes[i];
                if (place >= term.weight) {
                    return false;
                }
                if (!isVariable(code)) {
                    if (term.codes[place] != code) {
                        return false;
                    }
                    place++;
                    continue;
                }
                if (boundAt[code] == NOWHERE) {
                    boundAt[code] = place;
                } else if (!Letters.isSame(term, boundAt[code], term, place)) {
                    return false;
                }
                place = term.ends[place];
            }
            return true;
        }

        /** Makes the replacement from a side whose variables are bound; false if it has no room. */
        private boolean fill(Letters side, Letters term, int room) {
            replacement.empty();
            for (int i = 0; i < side.weight; i++) {
                int code = side.codes[i];
                int from = isVariable(code) ? boundAt[code] : NOWHERE;
                int letters = from == NOWHERE ? 1 : term.ends[from] - from;
                if (replacement.weight + letters > room) {
                    return false;
                }
                for (int k = 0; k < letters; k++) {
                    replacement.append(from == NOWHERE ? code : term.codes[from + k]);
                }
            }
            replacement.close();
            return true;
        }
    }

    /** Unifies terms that stand in one row; values are places in it, so that nothing is copied. */
    private static final class Unifier {
        /** Far above the letters of a value of weight 300 and the variables on the way to them. */
        private static final int MOST_TURNS = 1000000;

        private final Letters row = new Letters(MOST_TEXT);
        private final int[] values = new int[VARIABLES];
        private final int[] firsts = new int[MOST_PAIRS + 2];
        private final int[] seconds = new int[MOST_PAIRS + 2];
        private int pairs = 0;
        private final Letters made = new Letters(HEAVIEST_VALUE);
        private final int[] nexts = new int[VARIABLES + 1];
        private final int[] stops = new int[VARIABLES + 1];

        void forget() {
            row.empty();
        }

        /** Appends a term to the row; where it begins. */
        int load(Letters term, int shift) {
            int begin = row.weight;
            row.appendAll(term, shift);
            row.close();
            return begin;
        }

        /** Unifies two terms of the row; whether that does not fail. */
        boolean solve(int s, int t) {
            Arrays.fill(values, NOWHERE);
            pairs = 0;
            push(s, t);
            for (int turn = 0; turn < MOST_PAIRS && pairs > 0; turn++) {
                pairs--;
                int first = look(firsts[pairs]);
                int second = look(seconds[pairs]);
                int a = row.codes[first];
                int b = row.codes[second];
                if (isVariable(a)) {
                    if (a != b && !give(a, second)) {
                        return false;
                    }
                } else if (isVariable(b)) {
                    if (!give(b, first)) {
                        return false;
                    }
                } else if (a != b) {
                    return false;
                } else {
                    pushArguments(first, second, argumentsOf(a));
                }
            }
            return pairs == 0;
        }

        private void push(int s, int t) {
            if (pairs < firsts.length) {
                firsts[pairs] = s;
                seconds[pairs] = t;
                pairs++;
            }
        }

        /** The last pair that is pushed is looked at first. */
        private void pushArguments(int s, int t, int arguments) {
            if (arguments == 2) {
                push(row.ends[s + 1], row.ends[t + 1]);
            }
            if (arguments >= 1) {
                push(s + 1, t + 1);
            }
        }

        private int look(int at) {
            int seen = at;
            for (int i = 0; i < VARIABLES; i++) {
                int code = row.codes[seen];
                if (!isVariable(code) || values[code] == NOWHERE) {
                    return seen;
                }
                seen = values[code];
            }
            return seen;
        }

        private boolean give(int variable, int at) {
            if (!expand(at, row.ends[at], HEAVIEST_VALUE)
                    || made.holds(variable, 0, made.weight)) {
                return false;
            }
            values[variable] = at;
            return true;
        }

        /** How many letters those before a place of a term become, all values being put in. */
        int weightBefore(int term, int at) {
            expand(term, at, HEAVIEST_VALUE);
            return made.weight;
        }

        /** Writes the instance of a term; false if it is heavier than the limit. */
        boolean writeInstance(int at, Letters into, int limit) {
            if (!expand(at, row.ends[at], limit)) {
                return false;
            }
            into.empty();
            into.appendAll(made, 0);
            into.close();
            return true;
        }

        /** Makes the letters of a part of the row with all values put in; false beyond the limit. */
        private boolean expand(int from, int to, int limit) {
            made.empty();
            int depth = 0;
            nexts[0] = from;
            stops[0] = to;
            for (int turn = 0; turn < MOST_TURNS && depth >= 0; turn++) {
                if (nexts[depth] >= stops[depth]) {
                    depth--;
                    continue;
                }
                int code = row.codes[nexts[depth]];
                nexts[depth]++;
                int value = isVariable(code) ? values[code] : NOWHERE;
                // No value holds its own variable, so there are no more levels than variables.
                if (value != NOWHERE && depth < VARIABLES) {
                    depth++;
                    nexts[depth] = value;
                    stops[depth] = row.ends[value];
                } else if (made.weight == limit) {
                    return false;
                } else {
                    made.append(code);
                }
            }
            return depth < 0;
        }
    }

    /** Works out one overlap after the other. */
    private static final class Overlap {
        final Unifier unifier = new Unifier();
        /** What came of it, if that is a new pair. */
        final Equation pair = new Equation(HEAVIEST_TERM);
        private final Equation used = new Equation(HEAVIEST_TERM);

        /** Of side l of a into the subterm of side m of b at a place. */
        int workOut(Equation a, int l, Equation b, int m, int at) {
            if (isVariable(b.side(m).codes[at])) {
                return NOTHING;
            }
            unifier.forget();
            int sideL = unifier.load(a.side(l), 0);
            int sideR = unifier.load(a.side(1 - l), 0);
            int sideM = unifier.load(b.side(m), NAMES);
            int sideN = unifier.load(b.side(1 - m), NAMES);
            if (!unifier.solve(sideM + at, sideL)) {
                return NOTHING;
            }
            if (!unifier.writeInstance(sideL, used.left, HEAVIEST_TERM)
                    || !unifier.writeInstance(sideR, used.right, HEAVIEST_TERM)
                    || !unifier.writeInstance(sideM, pair.left, HEAVIEST_TERM)
                    || !unifier.writeInstance(sideN, pair.right, HEAVIEST_TERM)) {
                return LOST;
            }
            if (isRightAtLeastLeft(used) || isRightAtLeastLeft(pair)) {
                return NOTHING;
            }
            if (pair.left.weight - used.left.weight + used.right.weight > HEAVIEST_TERM) {
                return LOST;
            }
            pair.left.replace(unifier.weightBefore(sideM, sideM + at), used.right);
            return NEW_PAIR;
        }

        private boolean isRightAtLeastLeft(Equation instances) {
            return instances.sidesAreSame()
                    || Letters.isGreater(instances.right, 0, instances.left, 0, 0);
        }
    }
}
