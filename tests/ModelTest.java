import java.lang.reflect.InvocationTargetException;
import java.lang.reflect.Method;
import java.util.ArrayList;
import java.util.Arrays;
import java.util.HashMap;
import java.util.List;
import java.util.Map;
import java.util.NoSuchElementException;
import java.util.Random;

/** Random runs of calls, answered by the class and by the slow model: each answer must be the same. */
public final class ModelTest {
    /** Each call with what its arguments are and how often it comes. */
    private static final String[] CALLS = {
        "day CD 8", "date C N 0..3 8", "turned CD C 0..2 8", "many C Y 0..12 6", "kind C Y 6",
        "way HCD 0..1 I 20", "answers HCD 0..3 30", "ask 8", "asked A 0..5 10", "fits S 6", "so H S 6",
        "further Y 6", "lived 0..1 5", "after 0..1 5", "learnt HH S 0..1 8", "weigh H 1..9 3", "odds J S 5",
        "plan CD 6", "parted P B 6", "next B 5", "part HHC Y 1..20 2", "least H Y 1..14 R 0..1 1",
        "like C Y 0..30 3", "thirteenths C YY 0..6 1", "mates C Y 1..12 6", "born CD 4", "age CD 8",
        "event CD 0..3 10", "held CD 8", "spell 0..3 5", "keep 3", "back 2", "row HC 0..9 15",
        "run H L 0..99 0..99 P 10", "holds HC 0..1 0..5 YY 5", "right HC Y 0..1 3", "lacks H YY 0..3 5",
        "spare S 0..60 5", "unlike CC N 3", "rises HH YY 4", "count 0..7 8", "fault 0..2 2", "end 0..40 1",
        "text 0..2 1"};

    private final Random random;
    private final Map<String, Method> real = methodsOf(DayBoy.class);
    private final Map<String, Method> slow = methodsOf(Model.class);
    private final List<Object> log = new ArrayList<>();
    private DayBoy boy;
    private Model model;
    private int wrong;
    private int[] years;
    /** The date that half of all dates of a run are near to. */
    private int[] focus;
    /** How many asks the first head answers ahead of the second, and how seldom another answer is told. */
    private int turn;
    private int whim;
    private String[] calendars;
    private String[] heads;

    private ModelTest(long seed) {
        random = new Random(seed);
    }

    public static void main(String[] args) {
        int batches = args.length > 0 ? Integer.parseInt(args[0]) : 6;
        int runs = args.length > 1 ? Integer.parseInt(args[1]) : 25;
        long seed = args.length > 2 ? Long.parseLong(args[2]) : 1811;
        ModelTest test = new ModelTest(seed);
        for (int batch = 0; batch < batches && test.wrong == 0; batch++) {
            test.startBatch();
            for (int run = 0; run < runs && test.wrong == 0; run++) {
                test.run();
            }
            for (int i = 0; i < 4000 && test.wrong == 0; i++) {
                test.compareFaults();
            }
        }
        System.out.println(test.wrong == 0 ? "the model agrees" : "the model answers otherwise");
        System.exit(test.wrong == 0 ? 0 : 1);
    }

    private static Map<String, Method> methodsOf(Class<?> type) {
        Map<String, Method> methods = new HashMap<>();
        for (Method method : type.getDeclaredMethods()) {
            if (!java.lang.reflect.Modifier.isPrivate(method.getModifiers())) {
                methods.put(method.getName(), method);
            }
        }
        return methods;
    }

    private int below(int bound) {
        return random.nextInt(bound);
    }

    private int pick(int... from) {
        return from[below(from.length)];
    }

    private void startBatch() {
        Model.Cal.READ.clear();
        Model.Mind.READ.clear();
        years = new int[] {1, 2, 400, 1000 + below(1000), 1752, 1900, 2000, 9998, 9999, 1 + below(9999)};
        calendars = new String[7];
        for (int i = 0; i < calendars.length; i++) {
            calendars[i] = rightText(0);
        }
        heads = new String[14];
        for (int i = 0; i < heads.length; i++) {
            heads[i] = rightText(1);
        }
    }

    private String rightText(int sort) {
        while (true) {
            String text = sort == 0 ? calendar() : sort == 1 ? head() : thingRow();
            Model trial = new Model();
            feedTo(text, trial::feed);
            if (text.length() <= 160 && trial.fault(sort) == Model.NONE) {
                return text;
            }
        }
    }

    private String leaps() {
        if (below(2) == 0) {
            return new String[] {"4+", "4+100-400+", "4+100-", "1-", "1+", "4+100-400+4000-", "3+5-15+"}[below(7)];
        }
        StringBuilder text = new StringBuilder();
        for (int i = below(5); i >= 0; i--) {
            text.append(pick(1, 2, 3, 4, 5, 7, 8, 10, 28, 100, 128, 400, 1900, 9999)).append(below(3) > 0 ? '+' : '-');
        }
        return text.toString();
    }

    private String calendar() {
        StringBuilder text = new StringBuilder().append(below(10)).append(':').append(leaps());
        int y = year();
        for (int i = below(4); i > 0; i--) {
            int m = pick(1, 2, 2, 2, 3, 12, 12, 1 + below(12));
            int d = pick(1, 28, 28, 29, 30, 31, 31, 1 + below(31));
            text.append('@').append(y).append('.').append(m).append('.').append(d);
            text.append('-').append(pick(0, 1, 10, 11, 30, below(31))).append(':').append(leaps());
            y = below(3) == 0 ? y : Math.min(9999, y + below(pick(2, 30, 500)));
        }
        return text.toString();
    }

    private String head() {
        StringBuilder text = new StringBuilder();
        if (below(4) > 0) {
            addUsualItems(text);
        }
        for (int i = pick(1, 2, 4, 6, 8, 14); i > 0 && text.length() < 150; i--) {
            text.append(text.length() > 0 ? "," : "").append(item());
        }
        return text.toString();
    }

    /** Years, a small step and months that hang together, so that most dates have a way. */
    private void addUsualItems(StringBuilder text) {
        int y = year();
        text.append('k').append(y).append('-').append(Math.min(9999, y + below(30)));
        text.append(",y").append(pick(1, 2, 3, 4, 5, 6)).append(':').append(pick(0, 1, 2, 9));
        int month = 1;
        for (int i = pick(0, 3, 6, 9); i > 0; i--) {
            int other = (month + pick(1, 2, 3, 9)) % 12 + 1;
            text.append(",m").append(month).append('=').append(other).append(':').append(below(4));
            month = below(3) == 0 ? month : other;
        }
        for (int i = pick(0, 0, 1, 2, 6); i > 0; i--) {
            text.append(",o").append((month + i * 5) % 12 + 1);
        }
    }

    private String item() {
        int y = year();
        int cost = pick(0, 0, 1, 2, 3, below(100));
        switch (below(12)) {
            case 0:
            case 1:
            case 2:
                return "k" + y + "-" + Math.min(9999, y + pick(0, 1, 4, below(120)));
            case 3:
            case 4:
            case 5:
                return "y" + pick(1, 2, 3, 4, 6, 11, 28, 28, 100, 400, 400, 1 + below(400)) + ":" + cost;
            case 6:
            case 7:
            case 8:
                return "m" + (1 + below(12)) + "=" + (1 + below(12)) + ":" + cost;
            case 9:
                return "o" + (1 + below(12));
            default:
                return "srbl".substring(below(4)).charAt(0) + "" + cost;
        }
    }

    private String thingRow() {
        StringBuilder text = new StringBuilder();
        for (int i = below(10); i >= 0; i--) {
            if (below(4) == 0) {
                text.append('?');
            } else {
                text.append(pick(year(), year(), below(10000))).append('.').append(pick(below(14), 1 + below(12)));
                text.append('.').append(pick(below(33), 1, 1 + below(28)));
            }
            text.append(i > 0 ? ";" : "");
        }
        return text.toString();
    }

    private int year() {
        return Math.max(1, Math.min(9999, pick(years) + pick(0, 0, 1, -1, below(30), -below(30))));
    }

    interface Feeder {
        int feed(int a, int b, int c, int d, int e);
    }

    private static void feedTo(String text, Feeder feeder) {
        for (int at = 0; at < text.length(); at += 20) {
            int[] words = new int[5];
            for (int i = 0; i < 20 && at + i < text.length(); i++) {
                words[i / 4] |= text.charAt(at + i) << 24 - 8 * (i % 4);
            }
            feeder.feed(words[0], words[1], words[2], words[3], words[4]);
        }
    }

    private void take(String text, int sort) {
        compare("end", 0);
        feed(text);
        compare("count", 5);
        compare("fault", sort);
        compare("text", sort);
    }

    private void feed(String text) {
        log.add("text " + text);
        feedTo(text, boy::feed);
        feedTo(text, model::feed);
    }

    private void run() {
        boy = new DayBoy();
        model = new Model();
        log.clear();
        turn = below(12);
        whim = pick(2, 5, 50);
        focus = new int[] {year(), 1 + below(12), 5 + below(27)};
        for (int i = pick(0, 1, 2, 3, 5); i > 0; i--) {
            take(calendars[below(calendars.length)], 0);
        }
        for (int i = pick(0, 1, 2, 3, 8); i > 0; i--) {
            take(heads[below(heads.length)], 1);
        }
        for (int i = 0; i < 400 && wrong == 0; i++) {
            if (below(80) == 0) {
                int sort = pick(0, 1, 2, 2, 2);
                take(sort == 0 ? calendars[below(7)] : sort == 1 ? heads[below(14)] : rightText(2), sort);
            } else {
                call();
            }
        }
    }

    private void call() {
        int total = Arrays.stream(CALLS).mapToInt(ModelTest::weightOf).sum();
        int left = below(total);
        int at = 0;
        while (left >= weightOf(CALLS[at])) {
            left -= weightOf(CALLS[at]);
            at++;
        }
        String[] words = CALLS[at].split(" ");
        if (words[0].equals("ask")) {
            ask();
            return;
        }
        List<Object> given = new ArrayList<>();
        for (int i = 1; i < words.length - 1; i++) {
            addArguments(words[i], given);
        }
        compare(words[0], given.toArray());
    }

    private static int weightOf(String call) {
        return Integer.parseInt(call.substring(call.lastIndexOf(' ') + 1));
    }

    private void addArguments(String word, List<Object> given) {
        if (word.contains("..")) {
            int least = Integer.parseInt(word.substring(0, word.indexOf('.')));
            int most = Integer.parseInt(word.substring(word.lastIndexOf('.') + 1));
            given.add(below(25) == 0 ? pick(least - 1, most + 1) : least + below(most - least + 1));
            return;
        }
        if (word.equals("YY")) {
            int from = year();
            given.add(from);
            given.add(below(20) == 0 ? from - 1 : below(4) == 0 ? year() : from + below(60));
            return;
        }
        for (char sort : word.toCharArray()) {
            switch (sort) {
                case 'C' -> given.add(number(model.count(0)));
                case 'H' -> given.add(number(model.count(1)));
                case 'J' -> given.add(below(3) == 0 ? -1 : number(model.count(1)));
                case 'A' -> given.add(number(model.count(2)));
                case 'P' -> given.add(below(4) == 0 ? -1 : number(model.count(3)));
                case 'B' -> given.add(below(25) == 0 ? pick(-1, 1 << model.count(1)) : below(1 << model.count(1)));
                case 'Y' -> given.add(below(25) == 0 ? pick(0, -1, 10000) : year());
                case 'S' -> given.add(below(25) == 0 ? pick(-1, 1000) : pick(0, 1, 5, 30, 999));
                case 'I' -> given.add(pick(-1, -1, 0, 1, 2, 3, -2, below(40)));
                case 'R' -> given.add(pick(0, 1, 2, 5, 30, 999, 1000, -1));
                case 'L' -> given.add(random.nextLong());
                case 'N' -> given.add(someDay());
                default -> addDate(given);
            }
        }
    }

    private int number(int count) {
        return count == 0 || below(30) == 0 ? pick(-1, count) : below(count);
    }

    private void addDate(List<Object> given) {
        if (below(2) == 0) {
            given.add(focus[0]);
            given.add(Math.max(1, focus[1] - (below(3) == 0 ? 1 : 0)));
            given.add(Math.max(1, focus[2] - below(6)));
            return;
        }
        given.add(below(40) == 0 ? pick(0, 10000) : year());
        given.add(below(40) == 0 ? pick(0, 13) : pick(1 + below(12), 2, 12));
        given.add(below(40) == 0 ? pick(0, 32) : pick(1 + below(31), 1 + below(28), 29));
    }

    private int someDay() {
        if (below(20) == 0) {
            return pick(-1, 0, 9, 4000000, 4000001, Integer.MIN_VALUE, Integer.MAX_VALUE);
        }
        return year() * 365 + year() / 4 + below(400) - pick(0, 10, 4000);
    }

    /** Asks whose answers are those of a head, or nearly so. */
    private void ask() {
        List<Object> date = new ArrayList<>();
        addArguments("CD", date);
        int[] n = date.stream().mapToInt(x -> (Integer) x).toArray();
        int head = model.count(1) > 1 && model.count(2) > turn ? 1 : 0;
        int answer = model.answers(head, n[0], n[1], n[2], n[3], 0);
        int tenths = model.answers(head, n[0], n[1], n[2], n[3], 1);
        if (answer == Model.HIDDEN || below(whim) == 0) {
            answer = below(30) == 0 ? pick(-1, 7) : below(7);
            tenths = below(30) == 0 ? pick(-1, 10000) : below(100);
        }
        int before = model.count(2) == 0 ? 0 : model.asked(model.count(2) - 1, 0);
        int month = below(30) == 0 ? pick(-1, 1000, before - 1) : before + pick(0, 0, 1, 2, 20);
        compare("ask", month, n[0], n[1], n[2], n[3], answer, tenths + pick(0, 0, 1, -1));
    }

    private void compare(String name, Object... given) {
        log.add(name + Arrays.toString(given));
        Object got = answerOf(real.get(name), boy, given);
        Object due = answerOf(slow.get(name), model, given);
        if (!got.equals(due)) {
            wrong++;
            log.forEach(System.out::println);
            System.out.println("answered " + got + ", due is " + due);
        }
    }

    private static Object answerOf(Method method, Object target, Object[] given) {
        try {
            return method.invoke(target, given);
        } catch (InvocationTargetException thrown) {
            if (thrown.getCause().getClass() == NoSuchElementException.class) {
                return "throws";
            }
            throw new IllegalStateException(thrown.getCause());
        } catch (IllegalAccessException closed) {
            throw new IllegalStateException(closed);
        }
    }

    /** A text with some bytes changed, taken out or put in. */
    private void compareFaults() {
        boy = new DayBoy();
        model = new Model();
        log.clear();
        int sort = below(3);
        StringBuilder text = new StringBuilder(sort == 0 ? calendar() : sort == 1 ? head() : thingRow());
        String signs = "0123456789 +-@.:;,=?kymosrblxK\u0080\u00b2\u00ff";
        for (int i = pick(0, 1, 1, 2, 5); i > 0; i--) {
            int at = below(text.length() + 1);
            char sign = signs.charAt(below(signs.length()));
            int change = below(4);
            if (change == 0 || at == text.length()) {
                text.insert(at, sign);
            } else if (change == 1) {
                text.insert(at, ' ');
            } else if (change == 2) {
                text.setCharAt(at, sign);
            } else {
                text.setLength(at);
            }
        }
        feed(text.toString());
        compare("fault", sort);
        compare("fault", (sort + 1) % 3);
    }
}
