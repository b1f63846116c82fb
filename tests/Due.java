import java.lang.reflect.Method;
import java.util.Arrays;
import java.util.Comparator;

/** What every test uses: telling texts, comparing answers, counting the wrong ones. */
final class Due {
    private static int wrong = 0;
    private static int asked = 0;
    /** Of a class of named tests: the one that runs. */
    private static String test = "";

    private Due() {
    }

    static void is(String call, long got, long want) {
        asked++;
        if (got == want) return;
        wrong++;
        if (wrong <= 50) System.out.println(test + call + " answered " + got + ", due is " + want);
    }

    /** Types all bytes of the text, as many in one call as go; answers what the last call did. */
    static int type(NoonWalker x, String text) {
        int answer = 0;
        for (int at = 0; at < text.length(); at += 8) {
            int n = Math.min(8, text.length() - at);
            long v = 0;
            for (int i = 0; i < n; i++) v = v << 8 | text.charAt(at + i) & 255;
            answer = x.type(v, n);
        }
        return answer;
    }

    static int tell(NoonWalker x, String text) {
        type(x, text);
        return x.land();
    }

    static NoonWalker told(String text) {
        NoonWalker x = new NoonWalker();
        int answer = tell(x, text);
        if (answer < 0) is("land() of " + text, answer, 0);
        return x;
    }

    /** A new object reads the text, and has so many items. */
    static void good(String text, int items) {
        NoonWalker x = new NoonWalker();
        is("land() of '" + text + "'", tell(x, text), items);
        is("count(5) behind '" + text + "'", x.count(5), 0);
    }

    /** A new object answers -10 less this place for the text, and nothing has changed. */
    static void fault(String text, int place) {
        NoonWalker x = told("town 7;town 8;road 0 1 3;stop 0 1;");
        x.go(5);
        x.saw(1, 4, 6);
        x.keep(1);
        is("land() of '" + text + "'", tell(x, text), -10 - place);
        is("count(5) behind '" + text + "'", x.count(5), text.length());
        is("count(0) behind '" + text + "'", x.count(0), 2);
        is("count(1) behind '" + text + "'", x.count(1), 1);
        is("count(2) behind '" + text + "'", x.count(2), 1);
        is("count(3) behind '" + text + "'", x.count(3), 1);
        is("count(4) behind '" + text + "'", x.count(4), 5);
        is("town(1, 0) behind '" + text + "'", x.town(1, 0), 8);
        is("far(0, 1) behind '" + text + "'", x.far(0, 1), 3);
        is("land() of '" + text + "' again", x.land(), -10 - place);
        is("clear() behind '" + text + "'", x.clear(), text.length());
        is("back(1) behind '" + text + "'", x.back(1), 5);
    }

    /** Runs the named tests of a class: its methods without parameters whose names begin with the word. */
    static void all(Class<?> tests, String... words) throws ReflectiveOperationException {
        Method[] methods = tests.getDeclaredMethods();
        Arrays.sort(methods, Comparator.comparing(Method::getName));
        for (Method method : methods) {
            boolean named = Arrays.stream(words).anyMatch(method.getName()::startsWith);
            if (!named || method.getParameterCount() != 0) continue;
            test = method.getName() + ": ";
            int before = asked;
            method.invoke(null);
            if (asked == before) is("it asks for nothing", 0, 1);
        }
        test = "";
        finish(tests.getSimpleName());
    }

    static void finish(String name) {
        System.out.println(name + ": " + asked + " answers, " + wrong + " not as due");
        if (wrong != 0) System.exit(1);
    }
}
