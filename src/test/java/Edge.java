import java.lang.reflect.Method;
import java.util.ArrayList;
import java.util.Arrays;
import java.util.List;
import java.util.Set;

/**
 * Tests told in lines, a call of the face a line, each test on a new object:
 *
 * <pre>
 * race {0,13,min} 8 -> false        once for each number between the braces
 * look 1 {0..2} -> 0 8 8            with an answer for each
 * sell 1 0 1 0 0 5                  without an answer: it must be taken
 * 510* sell 1 0 1 0 0 1             so many times
 * finish 1 1 2 3 -> 4               off, positions of runners 1, 2, .. (0: none), official
 * # S 50                            a reckoning for the reader
 * </pre>
 *
 * Of each call that is refused or only asks, a twin of the object, for which all the calls
 * ahead of it are made but this one, shows whether it changed anything.
 */
final class Edge {
    private static final int PROMISED_CALLS = 512;
    /** For the few tests that go on behind the promised calls. */
    private static final int LEAST_PORTION = 100;
    private static final Set<String> ASKING = Set.of("odds", "dividend", "sum", "unclaimed", "carried",
            "close", "ticket", "units", "look", "count");

    /** What can be asked for of any day. */
    private static final List<Call> LOOKS = callsOf("""
            sum {1..12} {0..3} {0..11}
            sum 0 4 {0..11}
            look {1..12} {0..4}
            look {1..12} {101..124}
            count {0..5}
            unclaimed
            carried
            close
            {odds,dividend,units} {1..12} {0..3} {1,2,3} {4,1} {3,2}
            {odds,dividend,units} 0 4 {1,2,3} {1,2,3} 0
            """);

    /** How a day may go on: it shows what a call changed that cannot be asked for. */
    private static final List<Call> REST_OF_THE_DAY = callsOf("""
            race {3,12} 5
            pool {1..3} {0..3} 100 10
            pair {1,2,3} {2,1} 100 10
            substitute {1,2} {1,2,3}
            sell {1..3} {0..3} 1 2 3 2
            sell {1..3} {0..3} 3 1 2 3
            sell 0 4 {1,2,3} {1,2,3} 0 4
            cancel {0,3,5,12}
            scratch {1,2} {4,3}
            off {1..3}
            place {1..3} {1,2,3} 1
            place {1..3} {2,3} 2
            place {1..3} 3 {3,4}
            official {1..3}
            pay {0..30}
            place 12 1 1
            off 12
            official 12
            unclaimed
            carried
            close
            sum {1..3} {0..3} {3,4,5,6,8}
            count {0..5}
            """);

    private record Call(Method method, Object[] numbers, String words) {
        /** True counts 1 and false 0. */
        long on(ToteHouse x) {
            try {
                Object answer = method.invoke(x, numbers);
                if (answer instanceof Boolean yes) {
                    return yes ? 1 : 0;
                }
                return ((Number) answer).longValue();
            } catch (ReflectiveOperationException fault) {
                throw new IllegalStateException(words, fault);
            }
        }

        boolean isTaken(long answer) {
            return method.getReturnType() == boolean.class ? answer == 1 : answer >= 0;
        }

        boolean onlyAsks() {
            return ASKING.contains(method.getName());
        }
    }

    private static int tests = 0;

    private final String sentence;
    private final ToteHouse house = new ToteHouse();
    private final List<Call> taken = new ArrayList<>();

    private Edge(String sentence) {
        this.sentence = sentence;
    }

    /** A test of one sentence of the document. */
    static void test(String sentence, String lines) {
        tests++;
        Edge edge = new Edge(sentence);
        for (String line : lines.split("\n")) {
            if (!line.isBlank() && !line.strip().startsWith("#")) {
                edge.run(line.strip());
            }
        }
    }

    static void end() {
        System.out.println(tests + " tests of a sentence");
        Check.end();
    }

    // ---- a line

    private void run(String line) {
        String[] sides = line.split("->");
        String answers = sides.length > 1 ? sides[1].strip() : "";
        String call = sides[0].strip();
        if (call.startsWith("finish ")) {
            finish(call.split(" +"), answers);
            return;
        }
        int times = call.contains("*") ? Integer.parseInt(call.substring(0, call.indexOf('*'))) : 1;
        for (int i = 0; i < times; i++) {
            make(callsOf(call.substring(call.indexOf('*') + 1).strip()), answers);
        }
    }

    private void finish(String[] words, String answers) {
        make(callsOf("off " + words[1]), "");
        for (int n = 1; n <= words.length - 2; n++) {
            if (!words[n + 1].equals("0")) {
                make(callsOf("place " + words[1] + " " + words[n + 1] + " " + n), "");
            }
        }
        make(callsOf("official " + words[1]), answers);
    }

    private void make(List<Call> calls, String answers) {
        String[] due = answers.split(" +");
        if (due.length != 1 && due.length != calls.size()) {
            throw new IllegalArgumentException(sentence + ": " + calls.size() + " calls, due are " + answers);
        }
        for (int i = 0; i < calls.size(); i++) {
            make(calls.get(i), due[due.length == 1 ? 0 : i]);
        }
    }

    private void make(Call call, String due) {
        long answer = call.on(house);
        String told = sentence + ": " + call.words();
        if (due.isEmpty()) {
            Check.due(told + " is taken (" + answer + ")", call.isTaken(answer), true);
        } else {
            Check.due(told, answer, number(due));
        }
        if (call.isTaken(answer) && !call.onlyAsks()) {
            taken.add(call);
        } else {
            changesNothing(call);
        }
    }

    // ---- what a call changed

    private void changesNothing(Call call) {
        List<Call> looks = new ArrayList<>(LOOKS);
        long sold = taken.stream().filter(one -> one.method().getName().equals("sell")).count();
        for (int t = 0; t <= sold; t++) {
            looks.addAll(callsOf("ticket " + t + " {0..6}"));
        }
        int portion = Math.max(LEAST_PORTION, PROMISED_CALLS - taken.size() - 1);
        for (int from = 0; from < looks.size(); from += portion) {
            compareTwins(call, looks.subList(from, Math.min(looks.size(), from + portion)));
        }
        compareTwins(call, REST_OF_THE_DAY);
    }

    private void compareTwins(Call call, List<Call> after) {
        ToteHouse touched = again();
        ToteHouse twin = again();
        call.on(touched);
        int changed = 0;
        for (Call one : after) {
            long answer = one.on(touched);
            long due = one.on(twin);
            if (answer != due) {
                changed++;
                System.out.println("  " + one.words() + " answered " + answer + ", without that call " + due);
            }
        }
        Check.due(sentence + ": answers changed by " + call.words(), changed, 0);
    }

    private ToteHouse again() {
        ToteHouse x = new ToteHouse();
        for (Call one : taken) {
            one.on(x);
        }
        return x;
    }

    // ---- words

    private static List<Call> callsOf(String lines) {
        List<Call> calls = new ArrayList<>();
        for (String line : lines.split("\n")) {
            for (String words : spread(line.strip())) {
                calls.add(callOf(words));
            }
        }
        return calls;
    }

    private static Call callOf(String words) {
        String[] parts = words.split(" +");
        Class<?>[] types = new Class<?>[parts.length - 1];
        Arrays.fill(types, int.class);
        Object[] numbers = new Object[types.length];
        for (int i = 0; i < numbers.length; i++) {
            numbers[i] = (int) number(parts[i + 1]);
        }
        try {
            return new Call(ToteHouse.class.getMethod(parts[0], types), numbers, words);
        } catch (NoSuchMethodException fault) {
            throw new IllegalArgumentException(words, fault);
        }
    }

    /** The line once for each of what its braces hold. */
    private static List<String> spread(String line) {
        int open = line.indexOf('{');
        if (open < 0) {
            return List.of(line);
        }
        int shut = line.indexOf('}');
        List<String> lines = new ArrayList<>();
        for (String one : held(line.substring(open + 1, shut))) {
            lines.addAll(spread(line.substring(0, open) + one + line.substring(shut + 1)));
        }
        return lines;
    }

    private static List<String> held(String words) {
        int dots = words.indexOf("..");
        if (dots < 0) {
            return List.of(words.split(","));
        }
        List<String> numbers = new ArrayList<>();
        int last = Integer.parseInt(words.substring(dots + 2));
        for (int i = Integer.parseInt(words.substring(0, dots)); i <= last; i++) {
            numbers.add("" + i);
        }
        return numbers;
    }

    private static long number(String word) {
        switch (word) {
            case "min": return Integer.MIN_VALUE;
            case "max": return Integer.MAX_VALUE;
            case "true": return 1;
            case "false": return 0;
            default: return Long.parseLong(word);
        }
    }
}
