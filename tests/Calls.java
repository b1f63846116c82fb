import java.lang.reflect.Method;
import java.lang.reflect.Modifier;
import java.util.ArrayList;
import java.util.Arrays;
import java.util.List;

/** Calls by name, on objects in three states, and whether a refused one changes anything that can be asked for. */
final class Calls {
    static final int NEW = 0, USED = 1, FULL = 2;

    private static final int[] HOURS = {0, 1, 29, 30, 360, 999};

    private Calls() {
    }

    /** NEW: nothing told. USED: 4 towns, the last on no way, 2 roads, 3 stops. FULL: all that there can be, the last hour. */
    static NoonWalker made(int state) {
        NoonWalker x = new NoonWalker();
        if (state == USED) {
            Due.tell(x, "town 5;town 40;town 12;town 30;road 0 1 10;road 1 2 7;stop 0 3;stop 1 2;stop 2 0;");
            x.saw(0, 12, 0);
            x.keep(0);
            x.go(14);
            x.saw(1, 12, 13);
            x.rate(3, 1);
            Due.type(x, "town 9");
        }
        if (state == FULL) {
            Due.tell(x, "town99;".repeat(6) + "road0 1 30;".repeat(10) + "stop0 9;stop1 9;".repeat(5));
            for (int i = 0; i < 8; i++) x.saw(i % 2, 12 + i, i);
            x.go(5);
            x.keep(0);
            x.go(999);
            x.keep(1);
            Due.type(x, "town 1;" + " ".repeat(293));
        }
        return x;
    }

    static long call(NoonWalker x, String name, long... numbers) {
        for (Method method : NoonWalker.class.getDeclaredMethods()) {
            if (!method.getName().equals(name) || !Modifier.isPublic(method.getModifiers())) continue;
            Object[] given = new Object[numbers.length];
            for (int i = 0; i < given.length; i++) {
                if (method.getParameterTypes()[i] == long.class) given[i] = numbers[i];
                else given[i] = (int) numbers[i];
            }
            try {
                return ((Number) method.invoke(x, given)).longValue();
            } catch (ReflectiveOperationException e) {
                throw new IllegalStateException(name + Arrays.toString(numbers), e);
            }
        }
        throw new IllegalStateException("no call " + name);
    }

    /** The call answers so, and all that can be asked for behind it is as without it. */
    static void refused(long due, int state, String name, long... numbers) {
        NoonWalker asked = made(state);
        String told = name + Arrays.toString(numbers) + " in state " + state;
        Due.is(told, call(asked, name, numbers), due);
        List<Long> want = everything(made(state));
        List<Long> got = everything(asked);
        for (int i = 0; i < want.size(); i++) Due.is("answer " + i + " behind " + told, got.get(i), want.get(i));
    }

    /** The call is not refused. */
    static void taken(long bad, int state, String name, long... numbers) {
        long answer = call(made(state), name, numbers);
        boolean refused = answer == bad || answer == NoonWalker.STATE || answer == NoonWalker.FULL;
        Due.is(name + Arrays.toString(numbers) + " in state " + state + " is refused", refused ? 1 : 0, 0);
    }

    /** One number at a time: its least and its greatest are taken, all outside are refused. */
    static void takes(long bad, int state, String name, long[] base, long[]... ranges) {
        taken(bad, state, name, base);
        for (int i = 0; i < ranges.length; i++) {
            for (long n : ranges[i]) taken(bad, state, name, with(base, i, n));
            long[] outside = {ranges[i][0] - 1, ranges[i][1] + 1, Integer.MIN_VALUE, Integer.MAX_VALUE};
            for (long n : outside) refused(bad, state, name, with(base, i, n));
        }
    }

    static long[] with(long[] base, int place, long n) {
        long[] numbers = base.clone();
        numbers[place] = n;
        return numbers;
    }

    static long[] of(long... numbers) {
        return numbers;
    }

    private static void ask(List<Long> answers, NoonWalker x, String name, int from, int to) {
        for (int n = from; n <= to; n++) answers.add(call(x, name, n));
    }

    private static void ask(List<Long> answers, NoonWalker x, String name, int most, int from, int to) {
        for (int n = 0; n <= most; n++) {
            for (int what = from; what <= to; what++) answers.add(call(x, name, n, what));
        }
    }

    private static void askMemory(List<Long> answers, NoonWalker x) {
        ask(answers, x, "count", 0, 5);
        for (String name : new String[] {"so", "two", "trace"}) answers.add(call(x, name));
        for (int hour = 0; hour < 8; hour++) answers.add(call(x, "stood", hour, 0));
    }

    /** Some 300 answers; the images and the text last, as to ask for these changes the rest. */
    private static List<Long> everything(NoonWalker x) {
        List<Long> answers = new ArrayList<>();
        askMemory(answers, x);
        ask(answers, x, "town", 5, 0, 2);
        ask(answers, x, "road", 9, 0, 2);
        ask(answers, x, "stop", 9, 0, 3);
        ask(answers, x, "far", 5, 0, 5);
        ask(answers, x, "best", 5, -1, 1);
        for (int hour : HOURS) {
            for (int what = 0; what < 4; what++) answers.add(call(x, "where", hour, what));
            for (int t = 0; t < 2; t++) answers.add(call(x, "clock", t, hour));
            answers.add(call(x, "ill", 99, hour));
        }
        ask(answers, x, "back", 0, 0);
        askMemory(answers, x);
        ask(answers, x, "back", 1, 1);
        askMemory(answers, x);
        answers.add(call(x, "land"));
        ask(answers, x, "count", 0, 5);
        answers.add(call(x, "clear"));
        return answers;
    }
}
