import java.lang.reflect.InvocationTargetException;
import java.lang.reflect.Method;
import java.nio.file.Files;
import java.nio.file.Path;
import java.util.ArrayList;
import java.util.Comparator;
import java.util.List;
import java.util.function.Supplier;
import java.util.function.ToLongFunction;

/**
 * Runs tests that each name a sentence of the document, and looks whether the sentences stand
 * there, and whether no word of the document is left that no test is of.
 */
abstract class Sentences extends Tables {
    private static final Path DOCUMENT = Path.of("../shared/DOC.md");

    static void runAll(Class<?> tests, int firstPromise, int lastPromise) throws Exception {
        List<Method> found = new ArrayList<>();
        for (Method m : tests.getDeclaredMethods()) {
            if (m.getAnnotation(Of.class) != null) {
                found.add(m);
            }
        }
        found.sort(Comparator.comparingInt((Method m) -> m.getAnnotation(Of.class).promise()).thenComparing(Method::getName));
        for (Method m : found) {
            run(m);
        }
        if (Files.exists(DOCUMENT)) {
            String document = plain(Files.readString(DOCUMENT));
            for (int promise = firstPromise; promise <= lastPromise; promise++) {
                lookUp(found, promise, section(document, promise));
            }
        }
        finish(tests.getName() + ": " + found.size() + " sentences");
    }

    private static void run(Method test) throws Exception {
        Of of = test.getAnnotation(Of.class);
        about = "promise " + of.promise() + ", \"" + of.sentence() + "\", " + test.getName();
        int before = asked;
        try {
            test.invoke(null);
        } catch (InvocationTargetException e) {
            wrong++;
            System.out.println(about + " threw " + e.getCause());
        }
        due("the test asks for something", asked > before ? 1 : 0, 1);
    }

    private static String plain(String text) {
        return text.replaceAll("```(text|java)?", " ").replaceAll("==== II\\. ", " ").replaceAll("\\s+", " ");
    }

    /** What a promise says behind its face; of 0 what stands ahead of promise 1. */
    private static String section(String document, int promise) {
        int behind = document.indexOf(promise == 33 ? "## Not promised" : "## Promise " + (promise + 1) + ":");
        if (promise == 0) {
            return document.substring(0, behind);
        }
        String whole = document.substring(document.indexOf("## Promise " + promise + ":"), behind);
        return whole.substring(whole.indexOf("`: ") + 3);
    }

    private static void lookUp(List<Method> tests, int promise, String section) {
        boolean[] quoted = new boolean[section.length()];
        for (Method m : tests) {
            Of of = m.getAnnotation(Of.class);
            if (of.promise() != promise) {
                continue;
            }
            about = m.getName();
            int at = section.indexOf(of.sentence());
            due("the document says in promise " + promise + " \"" + of.sentence() + "\"", at >= 0 ? 1 : 0, 1);
            for (; at >= 0; at = section.indexOf(of.sentence(), at + 1)) {
                for (int i = 0; i < of.sentence().length(); i++) {
                    quoted[at + i] = true;
                }
            }
        }
        about = "promise " + promise;
        int from = promise == 0 ? section.indexOf("## Terms") + "## Terms".length() : 0;
        StringBuilder left = new StringBuilder();
        for (int i = from; i < quoted.length; i++) {
            left.append(quoted[i] ? ' ' : section.charAt(i));
        }
        String words = left.toString().replaceAll("\\s+", " ").trim();
        due("words that no test is of: \"" + words + "\"", words.length(), 0);
    }

    /** What can be seen of an object by some sixty calls. */
    static String state(RouteStrides x) {
        StringBuilder seen = new StringBuilder();
        for (int what = 0; what <= 12; what++) {
            seen.append(x.count(what)).append(' ');
        }
        for (int k = 0; k < x.count(0) && k < 6; k++) {
            seen.append(x.rule(k, 0)).append('/').append(x.rule(k, 1)).append('=').append(x.rule(k, 2)).append(' ');
        }
        for (int hop = 0; hop < 4; hop++) {
            seen.append(x.hop(hop, 0)).append('.').append(x.hop(hop, 1)).append('.').append(x.hop(hop, 2)).append(' ');
        }
        for (int level = 0; level < x.count(2); level++) {
            seen.append(x.level(level, 0));
        }
        return seen.append(' ').append(x.steps()).append(' ').append(x.differs(0, 0)).append(' ')
            .append(x.differs(1, 0)).append(' ').append(x.reach(NONE)).toString();
    }

    /** Rules, strides, a shelf, a tape, acts that can be undone, the last of which touched nodes. */
    static RouteStrides worked() {
        RouteStrides x = halved();
        x.strides(266666);
        x.keep(1);
        x.add(0, 9, 7, 3);
        feedText(x, "1.0.0");
        return x;
    }

    /** A call that answers so on tables of all kinds, and after which all is as ahead of it. */
    static void refused(String call, ToLongFunction<RouteStrides> made, long want) {
        refusedOn(RouteStrides::new, call + " of a new object", made, want);
        refusedOn(Sentences::worked, call + " of a table", made, want);
        refusedOn(Tables::full, call + " of a full table", made, want);
    }

    static void refusedOn(Supplier<RouteStrides> maker, String call, ToLongFunction<RouteStrides> made, long want) {
        RouteStrides x = maker.get();
        RouteStrides twin = maker.get();
        String before = state(x);
        due(call, made.applyAsLong(x), want);
        same("what is there behind " + call, state(x), before);
        x.undo();
        twin.undo();
        same("what undo() brings behind " + call, state(x), state(twin));
    }

    static void same(String what, String got, String want) {
        due(what + " is [" + got + "], not [" + want + "]", got.equals(want) ? 1 : 0, 1);
    }

    /** How a text ends that is told to a table: its fault, and but for the tape nothing happens. */
    static void fault(String text, int place, int kind) {
        RouteStrides x = worked();
        x.end(0);
        String before = state(x);
        due("tell() of \"" + text + "\"", told(x, text), -2 - (8 * place + kind));
        same("what is there behind \"" + text + "\"", state(x), before);
    }
}
