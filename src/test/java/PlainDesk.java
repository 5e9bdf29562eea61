import java.util.ArrayList;
import java.util.HashMap;
import java.util.List;
import java.util.Map;
import java.util.NoSuchElementException;
import java.util.TreeMap;

/**
 * The document once more, as slow and plain as can be, with nothing kept between calls: what PremiumHours
 * answers is compared with it.
 */
final class PlainDesk {
    static final int NONE = -1;

    record Premium(String kind, int first, int second, int hundredths, boolean counts) {
    }

    record Time(int day, int minute, boolean again) {
    }

    record Token(int place, char sort, String text) {
    }

    record Span(int begin, int end, List<Integer> worked) {
    }

    static final class Rules {
        final List<Premium> premiums = new ArrayList<>();
        final List<Integer> holidays = new ArrayList<>();
        final Map<String, List<Integer>> told = new HashMap<>();

        int number(String line, int k, int without) {
            return told.containsKey(line) ? told.get(line).get(k) : without;
        }
    }

    private final List<Integer> tape = new ArrayList<>();
    private Rules rules = new Rules();
    private List<TreeMap<Integer, Integer>> punches = empty();
    private final List<List<TreeMap<Integer, Integer>>> earlier = new ArrayList<>();
    private List<Time> times = times(rules);

    private static List<TreeMap<Integer, Integer>> empty() {
        List<TreeMap<Integer, Integer>> all = new ArrayList<>();
        for (int i = 0; i < 4; i++) {
            all.add(new TreeMap<>());
        }
        return all;
    }

    private static List<TreeMap<Integer, Integer>> copy(List<TreeMap<Integer, Integer>> from) {
        List<TreeMap<Integer, Integer>> all = new ArrayList<>();
        for (TreeMap<Integer, Integer> one : from) {
            all.add(new TreeMap<>(one));
        }
        return all;
    }

    private static List<Time> times(Rules rules) {
        List<Time> all = new ArrayList<>();
        for (int day = 0; day < 28; day++) {
            for (int hour = 0; hour < 24; hour++) {
                boolean turn = rules.number("clock", 0, -9) == day && rules.number("clock", 1, -9) == hour;
                boolean forward = turn && rules.number("clock", 2, -9) == 1;
                for (int turns = forward ? 1 : 0; turns < (turn && !forward ? 2 : 1); turns++) {
                    for (int minute = 0; minute < 60; minute++) {
                        all.add(new Time(day, hour * 60 + minute, turns == 1));
                    }
                }
            }
        }
        return all;
    }

    // ---- rules

    int feed(int a, int b, int c, int d, int e) {
        if (tape.size() + 20 > 400) {
            return NONE;
        }
        for (int number : new int[] {a, b, c, d, e}) {
            tape.add(number >>> 24);
            tape.add(number >>> 16 & 255);
            tape.add(number >>> 8 & 255);
            tape.add(number & 255);
        }
        return tape.size();
    }

    private List<Token> tokens(int n) {
        List<Token> found = new ArrayList<>();
        int i = 0;
        while (i < n) {
            char c = (char) (int) tape.get(i);
            int from = i;
            i++;
            if (c == ' ' || c == '\n') {
                continue;
            }
            char sort = c >= 'a' && c <= 'z' ? 'w' : c >= '0' && c <= '9' ? 'n' : c == ';' ? ';' : '?';
            String text = "" + c;
            while ((sort == 'w' || sort == 'n') && i < n) {
                char next = (char) (int) tape.get(i);
                if (sort == 'w' ? next < 'a' || next > 'z' : next < '0' || next > '9') {
                    break;
                }
                text += next;
                i++;
            }
            found.add(new Token(from, sort, text));
        }
        found.add(new Token(n, 'e', ""));
        return found;
    }

    /** The forms of LINES: w a word, n a number with its bounds. */
    private static final String[] FORMS = {
        "clock 0-27 0-23 forward", "clock 0-27 0-23 back", "holiday 0-27", "round 0-14", "meal 1-96 1-16",
        "longest 1-24", "rate 1-400",
        "premium day 0-96 1-300", "premium week 0-672 1-300", "premium seventh 1-300",
        "premium night 0-23 0-23 1-300", "premium holiday 1-300",
        "premium day 0-96 1-300 counts", "premium week 0-672 1-300 counts", "premium seventh 1-300 counts",
        "premium night 0-23 0-23 1-300 counts", "premium holiday 1-300 counts"};

    private static boolean fits(Token token, String part) {
        return Character.isDigit(part.charAt(0)) ? token.sort == 'n'
            : part.equals(";") ? token.sort == ';' : token.sort == 'w' && token.text.equals(part);
    }

    /** Of all faults the least, by place and then by kind; told RULES go into the list if there is none. */
    private int readRules(int n, Rules into) {
        List<Token> tokens = tokens(n);
        List<Integer> faults = new ArrayList<>();
        int at = 0;
        while (tokens.get(at).sort != 'e') {
            int longest = -1;
            String[] whole = null;
            String[] goesFar = null;
            for (String form : FORMS) {
                String[] parts = (form + " ;").split(" ");
                int fit = 0;
                while (fit < parts.length && fits(tokens.get(at + fit), parts[fit])) {
                    fit++;
                }
                if (fit > longest) {
                    longest = fit;
                    goesFar = parts;
                }
                if (fit == parts.length) {
                    whole = parts;
                }
            }
            if (longest > 0) {
                lineFaults(tokens.subList(at, at + longest), goesFar, into, faults);
            }
            if (whole == null) {
                faults.add(8 * tokens.get(at + longest).place + 1);
                break;
            }
            at += longest;
        }
        int least = NONE;
        for (int fault : faults) {
            least = least == NONE ? fault : Math.min(least, fault);
        }
        return least;
    }

    private static void lineFaults(List<Token> line, String[] parts, Rules into, List<Integer> faults) {
        int place = line.get(0).place;
        String name = parts[0];
        List<Integer> numbers = new ArrayList<>();
        for (int i = 1; i < line.size(); i++) {
            if (line.get(i).sort == 'n') {
                String[] bounds = parts[i].split("-");
                String text = line.get(i).text;
                int value = text.length() > 4 ? -7 : Integer.parseInt(text);
                boolean twice = name.equals("holiday") && into.holidays.contains(value)
                    || parts[1].equals("night") && i == 3 && numbers.get(0) == value;
                if (value < Integer.parseInt(bounds[0]) || value > Integer.parseInt(bounds[1]) || twice) {
                    faults.add(8 * line.get(i).place + 2);
                }
                numbers.add(value);
            } else if (name.equals("clock") && line.get(i).sort == 'w') {
                numbers.add(line.get(i).text.equals("forward") ? 1 : 0);
            }
        }
        if (name.equals("premium")) {
            if (into.premiums.size() == 8) {
                faults.add(8 * place + 3);
            }
        } else if (name.equals("holiday")) {
            if (into.holidays.size() == 4) {
                faults.add(8 * place + 3);
            }
        } else if (into.told.containsKey(name)) {
            faults.add(8 * place + 3);
        }
        if (!line.get(line.size() - 1).text.equals(";")) {
            return;
        }
        if (name.equals("premium")) {
            int last = numbers.size() - 1;
            into.premiums.add(new Premium(parts[1], last > 0 ? numbers.get(0) : NONE, last > 1 ? numbers.get(1) : NONE,
                numbers.get(last), parts[parts.length - 2].equals("counts")));
        } else if (name.equals("holiday")) {
            into.holidays.add(numbers.get(0));
        } else {
            into.told.put(name, numbers);
        }
    }

    int rules(int n) {
        if (n < 0 || n > tape.size()) {
            return NONE;
        }
        Rules next = new Rules();
        int fault = readRules(n, next);
        tape.clear();
        if (fault != NONE) {
            return -2 - fault;
        }
        if (!String.valueOf(rules.told.get("clock")).equals(String.valueOf(next.told.get("clock")))) {
            punches = empty();
        }
        earlier.clear();
        rules = next;
        times = times(rules);
        return rules.premiums.size();
    }

    int count(int what) {
        int[] all = {rules.premiums.size(), rules.holidays.size(), rules.number("round", 0, 7),
            rules.number("meal", 0, 0), rules.number("meal", 1, 0), rules.number("longest", 0, 16),
            rules.number("rate", 0, 100), rules.number("clock", 0, NONE), rules.number("clock", 1, NONE),
            rules.number("clock", 2, NONE), tape.size(), earlier.size()};
        return what < 0 || what >= all.length ? NONE : all[what];
    }

    int premium(int premium, int what) {
        if (premium < 0 || premium >= rules.premiums.size() || what < 0 || what > 4) {
            throw new NoSuchElementException();
        }
        Premium p = rules.premiums.get(premium);
        int kind = List.of("day", "week", "seventh", "night", "holiday").indexOf(p.kind);
        return new int[] {kind, p.hundredths, p.counts ? 1 : 0, p.first, p.second}[what];
    }

    int moment(int day, int minute, boolean again) {
        return times.indexOf(new Time(day, minute, again));
    }

    int clock(int moment, int what) {
        if (moment < 0 || moment >= times.size() || what < 0 || what > 2) {
            return NONE;
        }
        Time time = times.get(moment);
        return what == 0 ? time.day : what == 1 ? time.minute : time.again ? 1 : 0;
    }

    // ---- punches

    private int refusal(int worker, int kind, int day, int minute, boolean again) {
        int moment = moment(day, minute, again);
        if (worker < 0 || worker > 3 || kind < 0 || kind > 2 || moment < 0) {
            return NONE;
        }
        return punches.get(worker).containsKey(moment) || punches.get(worker).size() == 60 ? NONE : moment;
    }

    private void remember() {
        earlier.add(copy(punches));
        if (earlier.size() > 16) {
            earlier.remove(0);
        }
    }

    int punch(int worker, int kind, int day, int minute, boolean again) {
        int moment = refusal(worker, kind, day, minute, again);
        if (moment < 0) {
            return NONE;
        }
        remember();
        punches.get(worker).put(moment, kind);
        return punches.get(worker).size();
    }

    int strike(int worker, int day, int minute, boolean again) {
        int moment = moment(day, minute, again);
        if (worker < 0 || worker > 3 || moment < 0 || !punches.get(worker).containsKey(moment)) {
            return NONE;
        }
        remember();
        punches.get(worker).remove(moment);
        return punches.get(worker).size();
    }

    int undo() {
        if (earlier.isEmpty()) {
            return NONE;
        }
        punches = earlier.remove(earlier.size() - 1);
        return earlier.size();
    }

    private List<int[]> pairs(int worker) {
        List<int[]> pairs = new ArrayList<>();
        Integer open = null;
        for (int moment : punches.get(worker).keySet()) {
            int kind = punches.get(worker).get(moment);
            if (open == null) {
                open = kind == 1 ? null : Integer.valueOf(moment);
            } else if (kind == 0) {
                open = moment;
            } else if (moment - open <= 60 * rules.number("longest", 0, 16)) {
                pairs.add(new int[] {open, moment});
                open = null;
            } else {
                open = kind == 1 ? null : Integer.valueOf(moment);
            }
        }
        return pairs;
    }

    int punched(int worker, int k, int what) {
        if (worker < 0 || worker > 3) {
            return NONE;
        }
        List<Integer> moments = new ArrayList<>(punches.get(worker).keySet());
        if (k == NONE) {
            return moments.size();
        }
        if (k < 0 || k >= moments.size() || what < 0 || what > 2) {
            return NONE;
        }
        int role = 2;
        for (int[] pair : pairs(worker)) {
            role = pair[0] == moments.get(k) ? 0 : pair[1] == moments.get(k) ? 1 : role;
        }
        return what == 0 ? moments.get(k) : what == 1 ? punches.get(worker).get(moments.get(k)) : role;
    }

    private int rounded(int moment) {
        int left = moment % 15;
        return left <= rules.number("round", 0, 7) ? (moment - left) / 15 : (moment - left) / 15 + 1;
    }

    private List<Span> spans(int worker) {
        List<Span> spans = new ArrayList<>();
        int n = rules.number("meal", 0, 0);
        int m = rules.number("meal", 1, 0);
        for (int[] pair : pairs(worker)) {
            int begin = rounded(pair[0]);
            int end = rounded(pair[1]);
            List<Integer> worked = new ArrayList<>();
            for (int q = begin; q < end; q++) {
                boolean meal = n > 0 && end - begin > n && q >= begin + n && q < begin + n + m;
                if (!meal && q * 15 < times.size()) {
                    worked.add(q);
                }
            }
            spans.add(new Span(begin, end, worked));
        }
        return spans;
    }

    int span(int worker, int k, int what) {
        if (worker < 0 || worker > 3) {
            return NONE;
        }
        List<Span> spans = spans(worker);
        if (k == NONE) {
            return spans.size();
        }
        if (k < 0 || k >= spans.size() || what < 0 || what > 2) {
            return NONE;
        }
        return what == 0 ? spans.get(k).begin : what == 1 ? spans.get(k).end : spans.get(k).worked.size();
    }

    // ---- quarters

    /** WORKED QUARTERS with how each is PAID. */
    static final class Paid {
        final List<Integer> quarters = new ArrayList<>();
        final List<Integer> best = new ArrayList<>();
        final List<Integer> came = new ArrayList<>();
        final List<Integer> may = new ArrayList<>();
    }

    private List<Integer> worked(int worker) {
        List<Integer> all = new ArrayList<>();
        for (Span span : spans(worker)) {
            all.addAll(span.worked);
        }
        return all;
    }

    private int dayOf(int quarter) {
        return times.get(quarter * 15).day;
    }

    private List<Integer> workedInWeek(int worker, int week) {
        List<Integer> all = worked(worker);
        all.removeIf(q -> dayOf(q) / 7 != week);
        return all;
    }

    private boolean may(int premium, List<Integer> quarters, int i, int counted, int without) {
        Premium p = rules.premiums.get(premium);
        int day = dayOf(quarters.get(i));
        int hour = times.get(quarters.get(i) * 15).minute / 60;
        if (premium == without) {
            return false;
        }
        switch (p.kind) {
            case "day": return quarters.subList(0, i).stream().filter(q -> dayOf(q) == day).count() >= p.first;
            case "week": return counted >= p.first;
            case "seventh":
                return day % 7 == 6 && quarters.stream().map(this::dayOf).filter(d -> d != day).distinct().count() == 6;
            case "night":
                return p.first < p.second ? p.first <= hour && hour < p.second : p.first <= hour || hour < p.second;
            default: return rules.holidays.contains(day);
        }
    }

    private int hundredths(int premium) {
        return premium == NONE ? 0 : rules.premiums.get(premium).hundredths;
    }

    private boolean counts(int premium) {
        return premium == NONE || rules.premiums.get(premium).counts;
    }

    private Paid paidInWeek(int worker, int week, int without) {
        Paid paid = new Paid();
        paid.quarters.addAll(workedInWeek(worker, week));
        int counted = 0;
        for (int i = 0; i < paid.quarters.size(); i++) {
            int pick = NONE;
            for (int p = 0; p < rules.premiums.size(); p++) {
                if (may(p, paid.quarters, i, counted, without) && hundredths(p) > hundredths(pick)) {
                    pick = p;
                }
            }
            paid.came.add(pick);
            counted += counts(pick) ? 1 : 0;
        }
        payBest(paid, without);
        return paid;
    }

    private void payBest(Paid paid, int without) {
        int n = paid.quarters.size();
        int premiums = rules.premiums.size();
        boolean[][] steady = new boolean[n][premiums];
        for (int i = 0; i < n; i++) {
            for (int p = 0; p < premiums; p++) {
                steady[i][p] = !rules.premiums.get(p).kind.equals("week") && may(p, paid.quarters, i, 0, without);
            }
        }
        int[][] rest = new int[n + 1][n + 2];
        for (int i = n - 1; i >= 0; i--) {
            for (int c = 0; c <= i; c++) {
                for (int p = NONE; p < premiums; p++) {
                    if (mayNow(p, steady[i], c, without)) {
                        rest[i][c] = Math.max(rest[i][c], hundredths(p) + rest[i + 1][counts(p) ? c + 1 : c]);
                    }
                }
            }
        }
        int counted = 0;
        for (int i = 0; i < n; i++) {
            int pick = -2;
            int bits = 0;
            for (int p = NONE; p < premiums; p++) {
                if (mayNow(p, steady[i], counted, without)) {
                    bits |= p < 0 ? 0 : 1 << p;
                    int won = hundredths(p) + rest[i + 1][counts(p) ? counted + 1 : counted];
                    pick = pick == -2 && won == rest[i][counted] ? p : pick;
                }
            }
            paid.best.add(pick);
            paid.may.add(bits);
            counted += counts(pick) ? 1 : 0;
        }
        if (n <= 6) {
            compareAllWays(paid, steady, without);
        }
    }

    private boolean mayNow(int p, boolean[] steady, int counted, int without) {
        if (p == NONE) {
            return true;
        }
        Premium premium = rules.premiums.get(p);
        return steady[p] || p != without && premium.kind.equals("week") && counted >= premium.first;
    }

    /** Goes through every way there is, in the document's order of ways, and keeps the first of most PAY. */
    private void compareAllWays(Paid paid, boolean[][] steady, int without) {
        List<Integer> best = new ArrayList<>();
        int[] most = {-1};
        tryWays(new ArrayList<>(), 0, 0, steady, without, most, best);
        if (!best.equals(paid.best)) {
            throw new IllegalStateException("the plain desk itself is wrong: " + best + " " + paid.best);
        }
    }

    private void tryWays(List<Integer> way, int counted, int sum, boolean[][] steady, int without, int[] most,
            List<Integer> best) {
        if (way.size() == steady.length) {
            if (sum > most[0]) {
                most[0] = sum;
                best.clear();
                best.addAll(way);
            }
            return;
        }
        for (int p = NONE; p < rules.premiums.size(); p++) {
            if (mayNow(p, steady[way.size()], counted, without)) {
                way.add(p);
                tryWays(way, counted + (counts(p) ? 1 : 0), sum + hundredths(p), steady, without, most, best);
                way.remove(way.size() - 1);
            }
        }
    }

    int quarter(int worker, int quarter, int what) {
        if (worker < 0 || worker > 3 || what < 0 || what > 4) {
            throw new NoSuchElementException();
        }
        if (!worked(worker).contains(quarter)) {
            return -2;
        }
        Paid paid = paidInWeek(worker, dayOf(quarter) / 7, NONE);
        int i = paid.quarters.indexOf(quarter);
        switch (what) {
            case 0: return dayOf(quarter);
            case 1: return times.get(quarter * 15).minute / 60;
            case 2: return paid.best.get(i);
            case 3: return paid.came.get(i);
            default: return paid.may.get(i);
        }
    }

    private int tally(int worker, int week, int day, int premium) {
        if (worker < 0 || worker > 3 || premium < -2 || premium >= rules.premiums.size()) {
            return NONE;
        }
        Paid paid = paidInWeek(worker, week, NONE);
        int found = 0;
        for (int i = 0; i < paid.quarters.size(); i++) {
            boolean inDay = day == NONE || dayOf(paid.quarters.get(i)) == day;
            found += inDay && (premium == -2 || paid.best.get(i) == premium) ? 1 : 0;
        }
        return found;
    }

    int day(int worker, int day, int premium) {
        return day < 0 || day > 27 ? NONE : tally(worker, day / 7, day, premium);
    }

    int week(int worker, int week, int premium) {
        return week < 0 || week > 3 ? NONE : tally(worker, week, NONE, premium);
    }

    int counted(int worker, int week, boolean asTheyCome) {
        if (worker < 0 || worker > 3 || week < 0 || week > 3) {
            return NONE;
        }
        Paid paid = paidInWeek(worker, week, NONE);
        return (int) (asTheyCome ? paid.came : paid.best).stream().filter(this::counts).count();
    }

    private int pay(int premium) {
        return rules.number("rate", 0, 100) * (100 + hundredths(premium));
    }

    int pay(int worker, int week, boolean asTheyCome) {
        if (worker < 0 || worker > 3 || week < 0 || week > 3) {
            return NONE;
        }
        Paid paid = paidInWeek(worker, week, NONE);
        return (asTheyCome ? paid.came : paid.best).stream().mapToInt(this::pay).sum();
    }

    int dayPay(int worker, int day) {
        if (worker < 0 || worker > 3 || day < 0 || day > 27) {
            return NONE;
        }
        Paid paid = paidInWeek(worker, day / 7, NONE);
        int sum = 0;
        for (int i = 0; i < paid.quarters.size(); i++) {
            sum += dayOf(paid.quarters.get(i)) == day ? pay(paid.best.get(i)) : 0;
        }
        return sum;
    }

    private int workerPay(int worker, int without) {
        int sum = 0;
        for (int week = 0; week < 4; week++) {
            sum += paidInWeek(worker, week, without).best.stream().mapToInt(this::pay).sum();
        }
        return sum;
    }

    private int total(int without) {
        int sum = 0;
        for (int worker = 0; worker < 4; worker++) {
            sum += workerPay(worker, without);
        }
        return sum;
    }

    int total() {
        return total(NONE);
    }

    // ---- what would be

    int would(int worker, int kind, int day, int minute, boolean again) {
        int moment = refusal(worker, kind, day, minute, again);
        if (moment < 0) {
            return Integer.MIN_VALUE;
        }
        int before = workerPay(worker, NONE);
        punches.get(worker).put(moment, kind);
        int after = workerPay(worker, NONE);
        punches.get(worker).remove(moment);
        return after - before;
    }

    int dearest(int worker, int kind, int day) {
        int best = NONE;
        int most = Integer.MIN_VALUE;
        for (int minute = 0; minute < 1440; minute += 15) {
            int more = would(worker, kind, day, minute, false);
            if (more > most) {
                best = minute;
                most = more;
            }
        }
        return best;
    }

    int worth(int premium) {
        return premium < 0 || premium >= rules.premiums.size() ? NONE : total(NONE) - total(premium);
    }

    int together(int worker, int other) {
        if (worker < 0 || worker > 3 || other < 0 || other > 3 || worker == other) {
            return NONE;
        }
        List<Integer> both = worked(worker);
        both.retainAll(worked(other));
        return both.size();
    }
}
