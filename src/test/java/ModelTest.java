import java.lang.reflect.InvocationTargetException;
import java.lang.reflect.Method;
import java.util.ArrayList;
import java.util.HashMap;
import java.util.List;
import java.util.Map;
import java.util.TreeMap;

/** Runs of calls, drawn by a fixed rule, on GrandsireLoft and on LoftModel: each call must answer the same. */
public final class ModelTest {
    private static final int RUNS = 1500;
    private static final int CALLS = 512;
    private static final int[][] LEADS = {
        {4, 0}, {4, 0, 9}, {4, 0, 9, 0, 9, 0, 9, 0, 3}, {4, 3, 12, 9}, {4, 9, 0}, {4, 0, 12}, {5, 16, 1},
        {5, 16, 1, 16, 1, 16, 1, 16, 1, 16, 7}, {5, 4, 1, 16}, {6, 0}, {6, 0, 33}, {6, 12, 33, 0},
        {6, 0, 33, 0, 33, 0, 33, 0, 33, 0, 33, 0, 3}, {6, 0, 12, 0, 33, 0, 12, 0, 33, 0, 12, 0, 3},
    };
    private static final int[] GAPS = {100, 101, 103, 200, 1000};

    private final Map<String, Method> real = new TreeMap<>();
    private final Map<String, Method> model = new HashMap<>();
    private final Map<String, Integer> answers = new TreeMap<>();
    private long drawn;
    private GrandsireLoft loft;
    private LoftModel plain;
    private StringBuilder told;
    private int calls;
    private int wrongRuns;

    private ModelTest() {
        for (Method method : GrandsireLoft.class.getDeclaredMethods()) {
            if (java.lang.reflect.Modifier.isPublic(method.getModifiers())) {
                real.put(method.getName(), method);
            }
        }
        for (Method method : LoftModel.class.getDeclaredMethods()) {
            if (java.lang.reflect.Modifier.isPublic(method.getModifiers())) {
                model.put(method.getName(), method);
            }
        }
    }

    public static void main(String[] args) throws IllegalAccessException {
        ModelTest test = new ModelTest();
        for (int run = 0; run < RUNS && test.wrongRuns < 5; run++) {
            test.drawn = run * 7919L + 1;
            test.run(run);
        }
        test.end();
    }

    private void end() {
        List<String> never = new ArrayList<>();
        for (String name : real.keySet()) {
            if (!answers.containsKey(name)) {
                never.add(name);
            }
        }
        if (!never.isEmpty()) {
            System.out.println("ModelTest: never answered: " + never);
        }
        System.out.println("ModelTest: " + wrongRuns + " of " + RUNS + " runs not as due; rang to the end "
                + answers.getOrDefault("rung to the end", 0) + " times");
        if (wrongRuns != 0 || !never.isEmpty()) {
            System.exit(1);
        }
    }

    private int draw(int below) {
        drawn = drawn * 6364136223846793005L + 1442695040888963407L;
        return (int) ((drawn >>> 33) % below);
    }

    private void run(int run) throws IllegalAccessException {
        loft = new GrandsireLoft();
        plain = new LoftModel();
        told = new StringBuilder("new");
        calls = 0;
        int wrongBefore = wrongRuns;
        int kind = draw(6);
        while (calls < CALLS && wrongRuns == wrongBefore) {
            int choice = draw(100);
            if (choice < 6) {
                makeMethod();
            } else if (choice < 10) {
                makeTouch();
            } else if (choice < 14) {
                planSome();
            } else if (choice < 24 + 4 * kind) {
                ringSome();
            } else if (choice < 60) {
                anyCall();
            } else {
                look();
            }
        }
        answers.merge("rung to the end", loft.rung(), Integer::sum);
    }

    private Integer call(String name, int... arguments) throws IllegalAccessException {
        if (calls >= CALLS) {
            return null;
        }
        calls++;
        Object[] boxed = new Object[arguments.length];
        told.append(' ').append(name).append('(');
        for (int at = 0; at < arguments.length; at++) {
            boxed[at] = arguments[at];
            told.append(at == 0 ? "" : ", ").append(arguments[at]);
        }
        told.append(')');
        Object got = answer(real.get(name), loft, boxed);
        Object due = answer(model.get(name), plain, boxed);
        if (!got.equals(due)) {
            wrongRuns++;
            System.out.println("ModelTest: " + told + " answered " + got + ", due is " + due);
            calls = CALLS;
        }
        if (!(got instanceof Boolean) && !(got instanceof Integer)) {
            return null;
        }
        answers.merge(name, 1, Integer::sum);
        return got instanceof Boolean ? (Boolean) got ? 1 : 0 : (Integer) got;
    }

    private static Object answer(Method method, Object of, Object[] arguments) throws IllegalAccessException {
        try {
            return method.invoke(of, arguments);
        } catch (InvocationTargetException thrown) {
            boolean isOwn = of instanceof LoftModel || Check.isThrownByTheLoft(thrown.getCause());
            return isOwn ? thrown.getCause().getClass() : thrown.getCause();
        }
    }

    private void makeMethod() throws IllegalAccessException {
        int[] lead = LEADS[draw(LEADS.length)];
        call("dropChanges");
        for (int at = 1; at < lead.length; at++) {
            call("change", draw(40) == 0 ? draw(64) : lead[at]);
        }
        Integer made = call("method", lead[0]);
        if (made != null && draw(3) > 0) {
            call("setCall", made, 1, draw(2) == 0 ? 9 : draw(31));
            call("setCall", made, 2, draw(2) == 0 ? 15 : draw(63));
        }
    }

    private void makeTouch() throws IllegalAccessException {
        int method = draw(8);
        if (draw(2) == 0) {
            call("compose", method, 1 + draw(6));
            return;
        }
        Integer course = call("course", method);
        if (course == null) {
            return;
        }
        call("dropLeads");
        int leads = draw(4) == 0 ? 1 + draw(21) : course;
        for (int lead = 0; lead < leads; lead++) {
            call("lead", draw(10) == 0 ? draw(8) : method, draw(6) == 0 ? draw(3) : 0);
        }
        call("touch");
    }

    private void planSome() throws IllegalAccessException {
        for (int touch = 0; touch < 4; touch++) {
            call("plan", plain.today() + draw(2) * draw(4), draw(12));
        }
    }

    private void ringSome() throws IllegalAccessException {
        if (!plain.isRinging()) {
            int touch = draw(12);
            call("plan", plain.today(), touch);
            int people = draw(2) == 0 ? 0 : draw(16) & draw(64);
            if (call("ring", touch, people, GAPS[draw(GAPS.length)]) == null) {
                renew();
            }
            return;
        }
        int ahead = draw(6);
        for (int turn = 0; turn < 12 && plain.isRinging(); turn++) {
            int bell = draw(6);
            for (int blow = 0; blow <= ahead; blow++) {
                pullSome(bell);
            }
        }
    }

    private void renew() throws IllegalAccessException {
        if (draw(4) == 0) {
            call("pass");
        }
        for (int bell = 0; bell < 6; bell++) {
            if (!plain.isIn(bell) && draw(2) == 0) {
                call("mend", bell, 0);
                call("mend", bell, 1);
                call("bringIn", bell);
            }
        }
    }

    private void pullSome(int bell) throws IllegalAccessException {
        Integer due = call("due", bell);
        if (due == null) {
            return;
        }
        int kind = draw(20);
        int off = kind < 6 ? 0 : kind < 12 ? draw(60) - 30 : kind < 18 ? draw(600) - 150 : draw(5000) - 500;
        int time = draw(300) == 0 ? 2000000000 : Math.max(0, Math.min(2000000000, due + off));
        call("pull", bell, draw(200) == 0 ? draw(3) - 1 : time);
    }

    /** Any call of the face, its arguments mostly in their range. */
    private void anyCall() throws IllegalAccessException {
        List<String> names = new ArrayList<>(real.keySet());
        String name = names.get(draw(names.size()));
        if ((name.equals("stand") || name.equals("takeOut")) && draw(3) > 0) {
            return;
        }
        if (name.equals("falseRows") && draw(8) > 0) {
            return;
        }
        int[] arguments = new int[real.get(name).getParameterCount()];
        for (int at = 0; at < arguments.length; at++) {
            arguments[at] = argument(name, at);
        }
        call(name, arguments);
    }

    private int argument(String name, int at) {
        if (draw(25) == 0) {
            int[] odd = {-1, -2, 3, 61, 64, 720, 2000000001, Integer.MIN_VALUE, Integer.MAX_VALUE};
            return odd[draw(odd.length)];
        }
        switch (name + at) {
            case "change0": return draw(64);
            case "method0": case "setBand1": return 4 + draw(3);
            case "setCall1": return 1 + draw(2);
            case "setCall2": return draw(2) == 0 ? new int[] {0, 3, 9, 12, 15, 33}[draw(6)] : draw(64);
            case "changeAt2": return draw(13);
            case "isFalse1": return draw(3) == 0 ? draw(721) : draw(121);
            case "compose1": return draw(8);
            case "leadAt1": return draw(8);
            case "rowAt1": case "bellAt1": return draw(60);
            case "plan0": case "planned0": case "plannedAt0": case "rota0": return plain.today() + draw(6);
            case "plan1": return draw(12);
            case "ring1": return draw(16);
            case "ring2": return 100 + draw(901);
            case "pull1": return draw(2000000001);
            case "setPatience0": return draw(3) == 0 ? 200 : draw(1001);
            case "setBand0": return draw(4);
            case "mend1": case "wear1": return draw(2);
            case "takeOut0": return draw(2) == 0 ? 5 : draw(7);
            case "head1": case "lead1": case "changeAt1": return draw(3);
            default: return draw(7);
        }
    }

    private void look() throws IllegalAccessException {
        String[] plainNames = {"done", "delay", "isRinging", "wrong", "rung", "latest", "dropped", "today", "touches"};
        String[] bellNames = {"isIn", "late", "early", "errors", "due"};
        String[] dayNames = {"planned", "rota"};
        String[] touchNames = {"isTrue", "comesRound", "firstRepeat", "rows", "leads"};
        switch (draw(5)) {
            case 0: call(plainNames[draw(plainNames.length)]); break;
            case 1: call(bellNames[draw(bellNames.length)], draw(6)); break;
            case 2: call(dayNames[draw(2)], Math.min(60, plain.today() + draw(4))); break;
            case 3: call(touchNames[draw(touchNames.length)], draw(12)); break;
            default: call("wear", draw(6), draw(2));
        }
    }
}
