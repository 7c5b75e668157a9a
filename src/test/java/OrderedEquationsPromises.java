import java.lang.reflect.Constructor;
import java.lang.reflect.Field;
import java.lang.reflect.Method;
import java.lang.reflect.Modifier;
import java.util.Set;
import java.util.TreeSet;

/** Each promise of the document with ordinary inputs, its edges, and wrong inputs. */
public final class OrderedEquationsPromises {
    private static final int STATE = -1001;
    private static final int ARGUMENT = -1002;
    private static final int INDEX = -1003;
    private static int wrong = 0;

    public static void main(String[] args) {
        face();
        promise1NewObject();
        promise2Type();
        promise3Wipe();
        promise4Axiom();
        promise4AxiomsNamed();
        promise4ThirtyWait();
        promise5Goal();
        promise5GoalReduced();
        promise6StepAnswers();
        promise6StepTakesTheLightest();
        promise6Junk();
        promise6Full();
        promise6Overlaps();
        promise6Alike();
        promise6GoalReducedByStep();
        promise7Steps();
        promise8Count();
        promise8Lost();
        promise8LostByWeight();
        promise9Show();
        promise10Compare();
        promise10Faults();
        promise11Unify();
        promise11Fails();
        promise12Reduce();
        promise12Choice();
        promise12Limits();
        promise13Length();
        promise14CharAt();
        System.out.println(wrong == 0 ? "all promises are kept" : wrong + " answers are not as due");
        System.exit(wrong == 0 ? 0 : 1);
    }

    private static void due(String what, Object got, Object want) {
        if (!got.equals(want)) {
            wrong++;
            System.out.println(what + " answered " + got + ", due is " + want);
        }
    }

    private static OrderedEquations typed(OrderedEquations x, String text) {
        for (char c : text.toCharArray()) {
            due("type " + c, x.type(c), true);
        }
        return x;
    }

    private static String page(OrderedEquations x) {
        StringBuilder made = new StringBuilder();
        for (int p = 0; p < x.length(); p++) {
            made.append(x.charAt(p));
        }
        return made.toString();
    }

    private static int axiom(OrderedEquations x, String text) {
        typed(x, text);
        try {
            return x.axiom();
        } catch (IllegalStateException e) {
            return STATE;
        }
    }

    private static OrderedEquations withAxioms(String... texts) {
        OrderedEquations x = new OrderedEquations();
        for (int i = 0; i < texts.length; i++) {
            due("axiom " + texts[i], axiom(x, texts[i]), i + 1);
        }
        return x;
    }

    /** An object with these active, each taken up before the next waits. */
    private static OrderedEquations withActives(String... texts) {
        OrderedEquations x = new OrderedEquations();
        for (String text : texts) {
            axiom(x, text);
            due("step for " + text, x.step(), OrderedEquations.ADDED);
        }
        return x;
    }

    private static int goal(OrderedEquations x, String text) {
        return typed(x, text).goal();
    }

    private static int compare(String text) {
        return typed(new OrderedEquations(), text).compare();
    }

    private static int reduce(OrderedEquations x, String text) {
        return typed(x, text).reduce();
    }

    private static String reduced(OrderedEquations x, String text) {
        int times = reduce(x, text);
        return times + " " + page(x);
    }

    private static String unified(String text) {
        OrderedEquations x = new OrderedEquations();
        int answer = typed(x, text).unify();
        return answer + " " + page(x);
    }

    private static int steps(OrderedEquations x, int many) {
        try {
            return x.steps(many);
        } catch (IllegalArgumentException e) {
            return ARGUMENT;
        }
    }

    private static int count(OrderedEquations x, int what) {
        try {
            return x.count(what);
        } catch (IllegalArgumentException e) {
            return ARGUMENT;
        }
    }

    private static int show(OrderedEquations x, int what, int i) {
        try {
            return x.show(what, i);
        } catch (IllegalArgumentException e) {
            return ARGUMENT;
        } catch (IndexOutOfBoundsException e) {
            return INDEX;
        }
    }

    private static String shown(OrderedEquations x, int what, int i) {
        int answer = show(x, what, i);
        return answer < 0 ? "none" : page(x);
    }

    private static String waiting(OrderedEquations x) {
        StringBuilder made = new StringBuilder();
        for (int i = 0; i < count(x, 1); i++) {
            made.append(' ').append(shown(x, 1, i));
        }
        return made.toString();
    }

    private static String counts(OrderedEquations x) {
        return count(x, 0) + " " + count(x, 1) + " " + count(x, 2);
    }

    private static void face() {
        Set<String> open = new TreeSet<>();
        Class<?> c = OrderedEquations.class;
        for (Method m : c.getDeclaredMethods()) {
            if (!Modifier.isPrivate(m.getModifiers())) {
                open.add(m.getReturnType() + " " + m.getName() + "/" + m.getParameterCount());
                due(m.getName() + " is public", Modifier.isPublic(m.getModifiers()), true);
            }
        }
        for (Field f : c.getDeclaredFields()) {
            if (!Modifier.isPrivate(f.getModifiers())) {
                open.add(f.getName());
                due(f.getName() + " is a constant", f.getModifiers(),
                        Modifier.PUBLIC | Modifier.STATIC | Modifier.FINAL);
            }
        }
        for (Constructor<?> k : c.getDeclaredConstructors()) {
            due("the constructor", k.getParameterCount() + " " + k.getModifiers(), "0 " + Modifier.PUBLIC);
        }
        due("the face", open, new TreeSet<>(Set.of("IDLE", "PROVED", "ADDED", "JUNK", "FULL", "NONE",
                "HEAVY", "boolean type/1", "int wipe/0", "int axiom/0", "int goal/0", "int step/0",
                "int steps/1", "int count/1", "int show/2", "int compare/0", "int unify/0",
                "int reduce/0", "int length/0", "char charAt/1")));
        due("the class", c.getModifiers(), Modifier.PUBLIC | Modifier.FINAL);
        due("IDLE", OrderedEquations.IDLE, 0);
        due("PROVED", OrderedEquations.PROVED, 1);
        due("ADDED", OrderedEquations.ADDED, 2);
        due("JUNK", OrderedEquations.JUNK, 3);
        due("FULL", OrderedEquations.FULL, 4);
        due("NONE", OrderedEquations.NONE, -100);
        due("HEAVY", OrderedEquations.HEAVY, -200);
    }

    private static void promise1NewObject() {
        OrderedEquations x = new OrderedEquations();
        due("1: length", x.length(), 0);
        due("1: charAt", x.charAt(0), ' ');
        due("1: counts", counts(x), "0 0 0");
        due("1: show active", show(x, 0, 0), INDEX);
        due("1: show waiting", show(x, 1, 0), INDEX);
        due("1: show goal", show(x, 2, 0), INDEX);
        due("1: step", x.step(), OrderedEquations.IDLE);
        due("1: wipe", x.wipe(), 0);
        due("1: reduce", reduced(x, "pab"), "0 pab");
        axiom(x, "a=b");
        due("1: another object", counts(new OrderedEquations()), "0 0 0");
    }

    private static void promise2Type() {
        OrderedEquations x = new OrderedEquations();
        due("2: 31", x.type((char) 31), false);
        due("2: 32", x.type((char) 32), true);
        due("2: 126", x.type((char) 126), true);
        due("2: 127", x.type((char) 127), false);
        due("2: 0", x.type((char) 0), false);
        due("2: 65535", x.type((char) 65535), false);
        due("2: 256 + 97", x.type((char) 353), false);
        due("2: what was typed", x.wipe(), 2);
        typed(x, "f".repeat(59));
        due("2: the 60th", x.type('a'), true);
        due("2: the 61st", x.type('a'), false);
        due("2: 60 stay", x.reduce(), OrderedEquations.HEAVY);
        due("2: after it is read", x.type('a'), true);
        due("2: appended", reduced(x, ""), "0 a");
    }

    private static void promise3Wipe() {
        OrderedEquations x = new OrderedEquations();
        due("3: nothing", x.wipe(), 0);
        due("3: three", typed(x, "a=b").wipe(), 3);
        due("3: then nothing", x.wipe(), 0);
        due("3: empty text", x.compare(), -1);
        typed(x, "pa").wipe();
        due("3: begins anew", reduced(x, "b"), "0 b");
        due("3: sixty", typed(x, " ".repeat(60)).wipe(), 60);
        due("3: the page stays", page(x), "b");
    }

    private static void promise4Axiom() {
        OrderedEquations x = new OrderedEquations();
        due("4: first", axiom(x, "fa=b"), 1);
        due("4: the text is empty", x.wipe(), 0);
        due("4: again the same", axiom(x, "fa=b"), 2);
        due("4: sides the same", axiom(x, "u=u"), 3);
        due("4: no text", axiom(x, ""), -1);
        due("4: one side", axiom(x, "a"), -2);
        due("4: no right side", axiom(x, "a="), -3);
        due("4: no left side", axiom(x, "=a"), -1);
        due("4: a missing argument", axiom(x, "pa=b"), -3);
        due("4: a letter too much", axiom(x, "ab=c"), -2);
        due("4: more behind it", axiom(x, "a=bc"), -4);
        due("4: two signs =", axiom(x, "a=b="), -4);
        due("4: a space", axiom(x, "a =b"), -2);
        due("4: no sign", axiom(x, "pah=a"), -3);
        due("4: a capital", axiom(x, "A=a"), -1);
        due("4: sixty p", axiom(x, "p".repeat(60)), -61);
        due("4: the text is empty with a fault", x.wipe(), 0);
        due("4: weight 20", axiom(x, "f".repeat(9) + "u=" + "g".repeat(9) + "u"), 4);
        due("4: weight 21", axiom(x, "f".repeat(10) + "u=" + "g".repeat(9) + "u"), OrderedEquations.HEAVY);
        due("4: a fault in a heavy one", axiom(x, "f".repeat(40) + "u=e"), -43);
        due("4: the text is empty when heavy", x.wipe(), 0);
        due("4: none came", counts(x), "0 4 0");
    }

    private static void promise4AxiomsNamed() {
        OrderedEquations x = withAxioms("pzy=z", "a=pxpyx", "pupvpwpxpyz=pzy", "pzpypxpwpvu=a", "fv=u");
        due("4: named", shown(x, 1, 0), "puv=u");
        due("4: named on the right", shown(x, 1, 1), "a=pupvu");
        due("4: six named", shown(x, 1, 2), "pupvpwpxpyz=pzy");
        due("4: six named anew", shown(x, 1, 3), "pupvpwpxpyz=a");
        due("4: left side first", shown(x, 1, 4), "fu=v");
    }

    private static void promise4ThirtyWait() {
        OrderedEquations x = new OrderedEquations();
        for (int i = 1; i <= 30; i++) {
            due("4: one of thirty", axiom(x, "f".repeat(i % 15) + "a=b"), i);
        }
        due("4: the 31st", axiom(x, "a=c"), STATE);
        due("4: again", axiom(x, ""), STATE);
        due("4: the text stays", x.compare(), 1);
        due("4: with a fault", axiom(x, "=="), STATE);
        due("4: the fault stays", x.wipe(), 2);
        due("4: thirty", counts(x), "0 30 0");
        due("4: one is taken", x.step(), OrderedEquations.ADDED);
        due("4: there is room", axiom(x, "a=c"), 30);
    }

    private static void promise5Goal() {
        OrderedEquations x = new OrderedEquations();
        due("5: other sides", goal(x, "fa=b"), OrderedEquations.IDLE);
        due("5: the text is empty", x.wipe(), 0);
        due("5: shown", shown(x, 2, 0), "fa=b");
        due("5: a variable", goal(x, "fu=a"), -2);
        due("5: a variable on the right", goal(x, "fa=z"), -4);
        due("5: nothing", goal(x, ""), -1);
        due("5: no right side", goal(x, "a="), -3);
        due("5: more behind it", goal(x, "a=aa"), -4);
        due("5: it stays with a fault", shown(x, 2, 0), "fa=b");
        String twenty = "f".repeat(19) + "a";
        due("5: side of 21", goal(x, "f" + twenty + "=a"), OrderedEquations.HEAVY);
        due("5: right side of 21", goal(x, "a=f" + twenty), OrderedEquations.HEAVY);
        due("5: the text is empty when heavy", x.wipe(), 0);
        due("5: it stays when heavy", shown(x, 2, 0), "fa=b");
        due("5: step", x.step(), OrderedEquations.IDLE);
        due("5: sides of 20", goal(x, twenty + "=" + twenty), OrderedEquations.PROVED);
        due("5: in place of the one before", shown(x, 2, 0), twenty + "=" + twenty);
        due("5: step when proved", x.step(), OrderedEquations.PROVED);
        due("5: another one", goal(x, "a=b"), OrderedEquations.IDLE);
        due("5: no more proved", x.step(), OrderedEquations.IDLE);
    }

    private static void promise5GoalReduced() {
        OrderedEquations x = withActives("fu=u");
        due("5: reduced", goal(x, "pfafb=gfa"), OrderedEquations.IDLE);
        due("5: both sides", shown(x, 2, 0), "pab=ga");
        due("5: reduced to the same", goal(x, "pfab=fpab"), OrderedEquations.PROVED);
        due("5: as it is now", shown(x, 2, 0), "pab=pab");
        OrderedEquations y = withActives("pau=qququuqququuquu");
        due("5: a side may grow", goal(y, "pab=qqpabcpab"), OrderedEquations.IDLE);
        due("5: up to 30", shown(y, 2, 0), "qqbqbbqqbqbbqbb=qqqqbqbbqqbqbbqbbcpab");
    }

    private static void promise6StepAnswers() {
        OrderedEquations x = new OrderedEquations();
        due("6: none waits", x.step(), OrderedEquations.IDLE);
        axiom(x, "fa=b");
        due("6: added", x.step(), OrderedEquations.ADDED);
        due("6: counts", counts(x), "1 0 0");
        due("6: idle then", x.step(), OrderedEquations.IDLE);
        goal(x, "ffc=c");
        axiom(x, "fc=c");
        due("6: it proves the goal", x.step(), OrderedEquations.PROVED);
        axiom(x, "ga=a");
        due("6: proved before", x.step(), OrderedEquations.PROVED);
        due("6: the other one waits on", counts(x), "2 1 0");
    }

    private static void promise6StepTakesTheLightest() {
        OrderedEquations x = withAxioms("ffa=b", "ga=b", "fb=c", "c=d");
        x.step();
        due("6: the lightest", shown(x, 0, 0), "c=d");
        due("6: the others wait", shown(x, 1, 0) + " " + shown(x, 1, 1) + " " + shown(x, 1, 2), "ffa=b ga=b fb=c");
        x.step();
        due("6: that has waited longest", shown(x, 0, 1), "ga=b");
        x.step();
        due("6: reduced before", shown(x, 0, 2), "fb=d");
        x.step();
        due("6: the heaviest", shown(x, 0, 3), "ffa=b");
        due("6: none waits", counts(x), "4 0 0");
    }

    private static void promise6Junk() {
        OrderedEquations x = withActives("fu=u");
        axiom(x, "fga=gfa");
        due("6: the same when reduced", x.step(), OrderedEquations.JUNK);
        axiom(x, "u=fu");
        due("6: the same, turned", x.step(), OrderedEquations.JUNK);
        due("6: it is gone", counts(x), "1 0 0");
        OrderedEquations y = withActives("puv=pvu");
        axiom(y, "pvu=puv");
        due("6: alike", y.step(), OrderedEquations.JUNK);
        OrderedEquations z = withActives("puqvw=pvquw");
        axiom(z, "pvquw=puqvw");
        due("6: alike when exchanged and named", z.step(), OrderedEquations.JUNK);
        OrderedEquations h = withActives("pau=quququququu");
        axiom(h, "qpabpac=d");
        due("6: weight 24 when reduced", h.step(), OrderedEquations.JUNK);
        axiom(h, "qpabg" + "f".repeat(6) + "c=d");
        due("6: weight 21 when reduced", h.step(), OrderedEquations.JUNK);
        axiom(h, "qpabg" + "f".repeat(5) + "c=d");
        due("6: weight 20 when reduced", h.step(), OrderedEquations.ADDED);
        due("6: neither is lost", count(h, 2), 0);
    }

    private static void promise6Full() {
        OrderedEquations x = withActives("paa=d", "pab=d", "pac=d", "pad=d", "pba=d", "pbb=d", "pbc=d",
                "pbd=d", "pca=d", "pcb=d");
        due("6: ten active", counts(x), "10 0 0");
        axiom(x, "pcc=d");
        axiom(x, "paa=pbb");
        due("6: junk before full, later", shown(x, 1, 1), "paa=pbb");
        due("6: full", x.step(), OrderedEquations.FULL);
        due("6: it is gone, and not counted", counts(x), "10 1 0");
        due("6: junk rather than full", x.step(), OrderedEquations.JUNK);
        due("6: idle when full", x.step(), OrderedEquations.IDLE);
        goal(x, "pcc=pcd");
        axiom(x, "pcc=pcd");
        due("6: full does not prove", x.step(), OrderedEquations.FULL);
        due("6: the ten stay", shown(x, 0, 9), "pcb=d");
    }

    private static void promise6Overlaps() {
        OrderedEquations x = withActives("gfu=u", "fa=b");
        due("6: new into old", shown(x, 1, 0), "gb=a");
        due("6: only that", counts(x), "2 1 0");
        OrderedEquations y = withActives("fa=b", "gfu=u");
        due("6: old into new", shown(y, 1, 0), "gb=a");
        OrderedEquations z = withActives("ffu=gu");
        due("6: into itself", shown(z, 1, 0), "fgu=gfu");
        due("6: not the whole into itself", counts(z), "1 1 0");
        OrderedEquations b = withActives("pua=u", "pbu=u");
        due("6: the whole side of another", counts(b), "2 1 0");
        due("6: with the new one's value in place", shown(b, 1, 0), "a=b");
        OrderedEquations s = withActives("puv=qvu");
        due("6: no overlap of other sides", counts(s), "1 0 0");
        OrderedEquations t = withActives("fpuv=v", "puv=w");
        due("6: variables of their own", shown(t, 1, 0), "fu=v");
        OrderedEquations g = withActives("fgu=u", "gfu=u");
        due("6: pairs that become the same", counts(g), "2 0 0");
        OrderedEquations d = withActives("fpuv=quv", "pab=pba");
        due("6: which side is left", shown(d, 1, 0), "qba=qab");
    }

    private static void promise6Alike() {
        OrderedEquations x = withActives("gfu=u");
        axiom(x, "pffgbffggb=pffgbffggc");
        axiom(x, "fa=b");
        due("6: a new pair waits", x.step() + " " + counts(x) + " " + shown(x, 1, 1), "2 2 2 0 gb=a");
        OrderedEquations y = withActives("gfu=u");
        axiom(y, "fa=b");
        axiom(y, "gb=a");
        due("6: but not if the same waits", y.step() + " " + counts(y), "2 2 1 0");
        OrderedEquations z = withActives("gfu=u");
        axiom(z, "fa=b");
        axiom(z, "a=gb");
        due("6: nor if it waits turned", z.step() + " " + counts(z) + " " + shown(z, 1, 0), "2 2 1 0 a=gb");
        OrderedEquations w = withActives("puv=pvu", "qapuv=pvu");
        due("6: what waits", waiting(w), " qapuv=puv qaqapuv=puv");
        axiom(w, "qau=u");
        due("6: nor if it is active", w.step() + waiting(w), "2 qapuv=puv qaqapuv=puv");
    }

    private static void promise6GoalReducedByStep() {
        OrderedEquations x = withAxioms("fu=gu");
        goal(x, "pfaga=pgafb");
        due("6: not yet", x.step(), OrderedEquations.ADDED);
        due("6: the goal is reduced by the new one", shown(x, 2, 7), "pgaga=pgagb");
        axiom(x, "a=b");
        due("6: then proved", x.step(), OrderedEquations.PROVED);
        due("6: both sides", shown(x, 2, -5), "pgbgb=pgbgb");
    }

    private static void promise7Steps() {
        OrderedEquations x = withAxioms("fa=b", "fb=c", "fc=c");
        due("7: 0", steps(x, 0), ARGUMENT);
        due("7: 21", steps(x, 21), ARGUMENT);
        due("7: -1", steps(x, -1), ARGUMENT);
        due("7: the least", steps(x, Integer.MIN_VALUE), ARGUMENT);
        due("7: the greatest", steps(x, Integer.MAX_VALUE), ARGUMENT);
        due("7: no step with these", counts(x), "0 3 0");
        due("7: one", steps(x, 1) + " " + counts(x), "2 1 2 0");
        due("7: two", steps(x, 2) + " " + counts(x), "2 3 0 0");
        due("7: twenty, none waits", steps(x, 20), OrderedEquations.IDLE);
        axiom(x, "fc=c");
        due("7: the last is junk", steps(x, 1), OrderedEquations.JUNK);
        axiom(x, "fc=c");
        due("7: idle behind junk", steps(x, 2), OrderedEquations.IDLE);
        OrderedEquations y = withAxioms("a=b", "fa=ga", "ga=gga");
        goal(y, "fa=fb");
        due("7: none behind proved", steps(y, 20) + " " + counts(y), "1 1 2 0");
        goal(y, "fa=gb");
        due("7: proved by the next", steps(y, 20) + " " + counts(y), "1 2 1 0");
    }

    private static void promise8Count() {
        OrderedEquations x = withAxioms("fa=b", "ga=b", "gb=b");
        x.step();
        due("8: active", count(x, 0), 1);
        due("8: waiting", count(x, 1), 2);
        due("8: lost", count(x, 2), 0);
        due("8: 3", count(x, 3), ARGUMENT);
        due("8: -1", count(x, -1), ARGUMENT);
        due("8: the least", count(x, Integer.MIN_VALUE), ARGUMENT);
    }

    private static void promise8Lost() {
        OrderedEquations x = withActives("gfu=u", "pfuv=d");
        for (int i = 1; i < 30; i++) {
            axiom(x, "ffffc=d");
        }
        axiom(x, "fa=b");
        due("8: thirty wait", counts(x), "2 30 0");
        due("8: two new pairs", x.step(), OrderedEquations.ADDED);
        due("8: room for the first of them", counts(x) + " " + shown(x, 1, 29), "3 30 1 gb=a");
        OrderedEquations six = withActives("pfuqvqwqxqyz=d", "fu=gv");
        due("8: six variables", counts(six) + " " + shown(six, 1, 0), "2 1 0 pguqvqwqxqyz=d");
        OrderedEquations seven = withActives("pfuqvqwqxqyz=gu", "fu=gv");
        due("8: seven variables", counts(seven), "2 0 1");
    }

    private static void promise8LostByWeight() {
        String heavy = "puv=quqvquqvquqvquqvv";
        OrderedEquations e = withActives("gggggggggggggpuv=d", "gquv=d", heavy);
        due("8: 30 then, and light when reduced", counts(e) + waiting(e), "3 1 0 ggggggggggggd=d");
        OrderedEquations f = withActives("ggggggggggggggpuv=d", "gquv=d", heavy);
        due("8: 31 then, not reduced any more", counts(f), "3 0 1");
        OrderedEquations s = withActives("ggggggggggpuv=d", "puv=fquququqvv");
        due("8: a new pair of 21", counts(s), "2 0 1");
        OrderedEquations t = withActives("gggggggggpuv=d", "puv=fquququqvv");
        due("8: a new pair of 20", counts(t), "2 1 0");
        OrderedEquations l = withActives("pqqguguupvpqvqvvw=d", "pupqguquupvqqvgvqvv=d");
        OrderedEquations m = withActives("pggququupvpqqvgvgvw=d", "pupqququuupvqqvvquv=d");
        due("8: a value of 300, instances above 30", counts(l), "2 0 4");
        due("8: a value of 301", counts(m), "2 0 2");
    }

    private static void promise9Show() {
        OrderedEquations x = withActives("fu=u", "ga=b");
        axiom(x, "pxy=pyx");
        axiom(x, "c=d");
        goal(x, "fgc=d");
        due("9: active 0", show(x, 0, 0) + " " + page(x), "4 fu=u");
        due("9: active 1", show(x, 0, 1) + " " + page(x), "4 ga=b");
        due("9: waiting 0", show(x, 1, 0) + " " + page(x), "7 puv=pvu");
        due("9: waiting 1", show(x, 1, 1) + " " + page(x), "3 c=d");
        due("9: the goal", show(x, 2, 0) + " " + page(x), "4 gc=d");
        due("9: whatever i", show(x, 2, Integer.MIN_VALUE) + " " + show(x, 2, 99), "4 4");
        due("9: active 2", show(x, 0, 2), INDEX);
        due("9: active -1", show(x, 0, -1), INDEX);
        due("9: waiting 2", show(x, 1, 2), INDEX);
        due("9: waiting -1", show(x, 1, Integer.MIN_VALUE), INDEX);
        due("9: what 3", show(x, 3, 0), ARGUMENT);
        due("9: what -1", show(x, -1, 0), ARGUMENT);
        due("9: what before i", show(x, 3, 99), ARGUMENT);
        due("9: the page stays", page(x), "gc=d");
        due("9: no goal", show(withActives("a=b"), 2, 0), INDEX);
    }

    private static void promise10Compare() {
        due("10: a variable in it", compare("fu=u"), 1);
        due("10: turned", compare("u=fu"), 2);
        due("10: other variables", compare("u=v"), 0);
        due("10: a variable not in it", compare("fu=v"), 0);
        due("10: a constant and a variable", compare("u=d") + compare("d=u"), 0);
        due("10: the same", compare("pufv=pufv"), 3);
        due("10: the same variable", compare("u=u"), 3);
        String signs = "pqfgabcd";
        for (int i = 0; i < 8; i++) {
            for (int k = 0; k < 8; k++) {
                String s = signs.charAt(i) + (i < 2 ? "dd" : i < 4 ? "d" : "");
                String t = signs.charAt(k) + (k < 2 ? "dd" : k < 4 ? "d" : "");
                due("10: " + s + "=" + t, compare(s + "=" + t), i < k ? 1 : i > k ? 2 : 3);
            }
        }
        due("10: an argument is it", compare("gpuv=puv"), 1);
        due("10: an argument is greater", compare("gpuv=quv"), 1);
        due("10: no argument is greater", compare("gquv=qvu"), 0);
        due("10: first arguments", compare("pab=pba"), 1);
        due("10: second arguments", compare("pab=pac"), 1);
        due("10: first ones decide", compare("pbd=pca"), 1);
        due("10: first ones less", compare("pcb=pba"), 2);
        due("10: a later one not less", compare("pfaa=pafa"), 1);
        due("10: a later one greater than all", compare("pfab=pappabc"), 2);
        due("10: commuted", compare("puv=pvu"), 0);
        due("10: associated", compare("ppuvw=pupvw"), 1);
        due("10: greater than each argument", compare("pab=qfafb"), 1);
        due("10: but for a variable", compare("pab=qfaw"), 0);
        due("10: distributed", compare("puqvw=qpuvpuw"), 1);
        due("10: f over g", compare("fgu=gfu"), 1);
        due("10: heavy ones", compare("f".repeat(29) + "u=" + "f".repeat(28) + "u"), 1);
        due("10: heavy ones, g", compare("g".repeat(28) + "fu=" + "fg".repeat(14) + "u"), 2);
        OrderedEquations x = new OrderedEquations();
        typed(x, "a=b").compare();
        due("10: the text is empty then", x.wipe(), 0);
    }

    private static void promise10Faults() {
        due("10: nothing", compare(""), -1);
        due("10: one side", compare("fa"), -3);
        due("10: no right side", compare("fa="), -4);
        due("10: no left side", compare("=a"), -1);
        due("10: a sign = too early", compare("pa=b"), -3);
        due("10: a letter too much", compare("pabc=a"), -4);
        due("10: e", compare("a=e"), -3);
        due("10: t", compare("t=a"), -1);
        due("10: a space behind", compare("a=b "), -4);
        due("10: an unended right side", compare("a=pf"), -5);
        OrderedEquations x = typed(new OrderedEquations(), "a=b c=d");
        due("10: its fault", x.compare(), -4);
        due("10: the text is empty", x.wipe(), 0);
        reduce(x, "ga");
        typed(x, "a=b").compare();
        due("10: the page stays", page(x), "ga");
    }

    private static void promise11Unify() {
        due("11: constants", unified("a=a"), "1 a");
        due("11: a variable", unified("u=pab"), "3 pab");
        due("11: on the right", unified("pab=u"), "3 pab");
        due("11: the first gets the second", unified("u=v"), "1 v");
        due("11: twice the same", unified("puu=puu"), "3 puu");
        due("11: commuted", unified("puv=pvu"), "3 pvv");
        due("11: all values put in", unified("puv=pfvgw"), "6 pfgwgw");
        due("11: from the left, before those that wait", unified("ppuvpwx=ppvvpuu"), "7 ppvvpvv");
        due("11: which one gets a value", unified("ppuvu=ppvwx"), "5 ppxxx");
        due("11: chains", unified("pupvw=pvpwa"), "5 papaa");
        due("11: weight 59", unified("puu=pv" + "f".repeat(28) + "a"), "59 p" + ("f".repeat(28) + "a").repeat(2));
        due("11: weight 60", unified("pufu=pv" + "f".repeat(29) + "a"),
                "60 p" + "f".repeat(28) + "a" + "f".repeat(29) + "a");
        due("11: weight 61", unified("puu=pv" + "f".repeat(29) + "a"), "-100 ");
    }

    private static void promise11Fails() {
        due("11: signs", unified("a=b"), "-100 ");
        due("11: signs inside", unified("pafu=pagu"), "-100 ");
        due("11: a value before", unified("puu=pab"), "-100 ");
        due("11: it occurs", unified("u=fu"), "-100 ");
        due("11: it occurs on the left", unified("fu=u"), "-100 ");
        due("11: it occurs by a value", unified("pufu=pvv"), "-100 ");
        due("11: it occurs by two", unified("pupvw=pfvpfwfu"), "-100 ");
        due("11: above 300", unified("pzpypxw=pqqaaqaapqqzzqzzpqqyyqyyqqxxqxx"), "-100 ");
        due("11: 301 pairs", unified("pzpypxpwpwpww=pqqaaqaapqqzzqzzpqqyyqyypxpxpxx"), "-100 ");
        due("11: no right side", unified("a="), "-3 ");
        due("11: nothing", unified(""), "-1 ");
        due("11: a sign too early", unified("ppppuvwxy=pqppvvpwwpxxpyyz"), "-26 ");
        OrderedEquations x = new OrderedEquations();
        typed(x, "puv=pvu").unify();
        due("11: fails", typed(x, "a=b").unify(), OrderedEquations.NONE);
        due("11: a fault", typed(x, "a=b=").unify(), -4);
        due("11: the page stays", page(x), "pvv");
        due("11: the text is empty", x.wipe(), 0);
    }

    private static void promise12Reduce() {
        OrderedEquations x = withActives("fu=u", "puu=u");
        due("12: nothing to do", reduced(x, "pgab"), "0 pgab");
        due("12: once", reduced(x, "fa"), "1 a");
        due("12: again and again", reduced(x, "pfafffa"), "5 a");
        due("12: with variables", reduced(x, "qfupvfv"), "3 quv");
        due("12: variables are not changed", reduced(x, "puv"), "0 puv");
        due("12: a variable", reduced(x, "z"), "0 z");
        due("12: nothing", reduce(x, ""), -1);
        due("12: an equation", reduce(x, "a=b"), -2);
        due("12: a term too much", reduce(x, "fab"), -3);
        due("12: not ended", reduce(x, "pa"), -3);
        due("12: no letter", reduce(x, "pa?"), -3);
        due("12: the text is empty", x.wipe(), 0);
        due("12: weight 30", reduced(x, "f".repeat(29) + "a"), "29 a");
        due("12: weight 31", reduce(x, "f".repeat(30) + "a"), OrderedEquations.HEAVY);
        due("12: the page stays", page(x), "a");
    }

    private static void promise12Choice() {
        OrderedEquations c = withActives("puv=pvu");
        due("12: by the order", reduced(c, "pab"), "1 pba");
        due("12: not against it", reduced(c, "pba"), "0 pba");
        due("12: not the same", reduced(c, "paa"), "0 paa");
        OrderedEquations r = withActives("a=fb");
        due("12: the right side", reduced(r, "gfb"), "1 ga");
        OrderedEquations v = withActives("pua=fv");
        due("12: a variable more on the other side", reduced(v, "pba"), "0 pba");
        due("12: so too on the right", reduced(v, "ffb"), "0 ffb");
        OrderedEquations u = withActives("u=d");
        due("12: a side that is a variable", reduced(u, "qab"), "1 d");
        due("12: not on a variable", reduced(u, "u"), "0 u");
        OrderedEquations first = withActives("fga=c", "gu=qud");
        due("12: nothing of it", count(first, 0), 2);
        due("12: the first subterm", reduced(first, "fga"), "1 c");
        OrderedEquations e = withActives("fc=c", "fu=b");
        due("12: the first equation", reduced(e, "fc"), "1 c");
        OrderedEquations l = withActives("pufv=pfuv");
        due("12: the left side matches, not used", reduced(l, "pcfd"), "0 pcfd");
        due("12: the right side matches, used", reduced(l, "pfcd"), "1 pcfd");
        due("12: both sides match", reduced(l, "pfcfd"), "1 pcffd");
        OrderedEquations s = withActives("ppuvpwx=ppxwpvu");
        due("12: left rather than right", reduced(s, "ppabpcd").startsWith("1 "), true);
    }

    private static void promise12Limits() {
        OrderedEquations x = withActives("fgu=gfu");
        due("12: 50 times at most", reduced(x, "f".repeat(8) + "g".repeat(7) + "a"),
                "50 " + fiftySwaps(8, 7));
        due("12: 49 times", reduced(x, "f".repeat(7) + "g".repeat(7) + "a"),
                "49 " + "g".repeat(7) + "f".repeat(7) + "a");
        due("12: 50 times just so", reduced(x, "f".repeat(5) + "g".repeat(10) + "a"),
                "50 " + "g".repeat(10) + "f".repeat(5) + "a");
        String thirty = "qpba" + "g".repeat(17) + "b";
        String heavier = "qpba" + "g".repeat(18) + "b";
        OrderedEquations y = withActives("pua=quququququu");
        due("12: weight 30 just so", reduced(y, thirty), "1 qqbqbqbqbqbb" + "g".repeat(17) + "b");
        due("12: 31 is too heavy", reduced(y, heavier), "0 " + heavier);
        OrderedEquations z = withActives("pua=quququququu", "puv=quv");
        due("12: the next equation instead", reduced(z, heavier), "1 qqba" + "g".repeat(18) + "b");
        OrderedEquations w = withActives("pua=quququququu", "gb=b");
        due("12: the next subterm instead", reduced(w, heavier), "19 qqbqbqbqbqbbb");
    }

    /** The first f before a g and that g change places, fifty times. */
    private static String fiftySwaps(int fs, int gs) {
        StringBuilder now = new StringBuilder("f".repeat(fs) + "g".repeat(gs) + "a");
        for (int i = 0; i < 50; i++) {
            int at = now.indexOf("fg");
            now.setCharAt(at, 'g');
            now.setCharAt(at + 1, 'f');
        }
        return now.toString();
    }

    private static void promise13Length() {
        OrderedEquations x = new OrderedEquations();
        due("13: empty", x.length(), 0);
        reduce(x, "pab");
        due("13: three", x.length(), 3);
        typed(x, "pabpab");
        due("13: the text is not the page", x.length(), 3);
        x.wipe();
        axiom(x, "fuu=");
        due("13: nor a fault", x.length(), 3);
        axiom(x, "fu=u");
        show(x, 1, 0);
        due("13: four", x.length(), 4);
        typed(x, "a=a").unify();
        due("13: one", x.length(), 1);
    }

    private static void promise14CharAt() {
        OrderedEquations x = new OrderedEquations();
        axiom(x, "pxy=fx");
        show(x, 1, 0);
        due("14: the page", page(x), "puv=fu");
        due("14: first", x.charAt(0), 'p');
        due("14: last", x.charAt(5), 'u');
        due("14: behind it", x.charAt(6), ' ');
        due("14: before it", x.charAt(-1), ' ');
        due("14: the least", x.charAt(Integer.MIN_VALUE), ' ');
        due("14: the greatest", x.charAt(Integer.MAX_VALUE), ' ');
        reduce(x, "a");
        due("14: a shorter page", x.charAt(1), ' ');
        due("14: 61", x.charAt(61), ' ');
    }
}
