import java.util.ArrayList;
import java.util.List;
import java.util.regex.Matcher;
import java.util.regex.Pattern;

/**
 * Every range of the document, on both sides: the last value that is taken, the first that is BEYOND, and that
 * a call that is BEYOND changes nothing. A row tells for each number of a call one that is taken, and the range.
 */
public final class RangesTest {
    private static final String[] CALLS = {
        "frost(10 [1..40])", "thaw(5 [1..20])", "snow(5 [1..10])", "scrape(3 [0..7])",
        "cell(5 [0..63], 1 [0..2])", "reached(1 [0..2])", "reach(5 [0..63], 1 [0..2])",
        "bars(9 [0..54])", "cut(9 [0..54])", "season(0 [0..2147483647])",
        "put(5 [0..6], 1 [0..15])", "take(5 [0..15])", "move(5 [0..15], 6 [0..15])",
        "as(0 [0..6], 1 [0..3])", "about(0 [0..6], 1 [0..6])", "at(5 [0..15], 0 [0..5])",
        "dust(0 [0..3], 5 [0..10])", "cover(5 [0..15], 5 [0..10])", "warmth(5 [0..99], 5 [0..40])",
        "weeks(1 [1..20])", "after(1 [0..20])", "lasts(500 [1..100000])", "best(5 [0..40], 0 [0..4])",
        "order(0 [0..2], 100 [1..2000], 9 [0..100], 10 [0..20], 50 [1..1000])",
        "why(1 [0..3], 5 [0..15])", "serve(1 [0..3], 5 [0..15])", "sales(0 [0..2147483647])",
        "station(5 [1..100], 5 [0..60], 5 [0..30])", "change(1 [0..3], 5 [1..100], 5 [0..60], 5 [0..30])",
        "icing(20 [1..60], 0 [0..20], -1 [-1..2])", "ledger(5 [0..6])", "check(1 [0..20])",
        "count(0 [0..8])", "found(1 [1..5])"};
    private static final Pattern NUMBER = Pattern.compile("(-?\\d+) \\[(-?\\d+)\\.\\.(-?\\d+)\\]");

    public static void main(String[] args) {
        for (String row : CALLS) {
            String call = row.substring(0, row.indexOf('('));
            List<int[]> ranges = new ArrayList<>();
            Matcher m = NUMBER.matcher(row);
            while (m.find()) {
                ranges.add(new int[] {number(m, 1), number(m, 2), number(m, 3)});
            }
            for (int i = 0; i < ranges.size(); i++) {
                edges(call, ranges, i);
            }
            allAtOnce(call, ranges);
        }
        Due.end();
    }

    private static int number(Matcher m, int group) {
        return Integer.parseInt(m.group(group));
    }

    private static void edges(String call, List<int[]> ranges, int i) {
        int least = ranges.get(i)[1];
        int most = ranges.get(i)[2];
        taken(call, with(ranges, i, least));
        taken(call, with(ranges, i, most));
        beyond(call, with(ranges, i, least - 1));
        beyond(call, with(ranges, i, Integer.MIN_VALUE));
        if (most < Integer.MAX_VALUE) {
            beyond(call, with(ranges, i, most + 1));
            beyond(call, with(ranges, i, Integer.MAX_VALUE));
        }
    }

    private static int[] with(List<int[]> ranges, int i, int v) {
        int[] numbers = new int[ranges.size()];
        for (int k = 0; k < numbers.length; k++) {
            numbers[k] = k == i ? v : ranges.get(k)[0];
        }
        return numbers;
    }

    private static void taken(String call, int[] numbers) {
        IceHouse x = Scene.with("");
        int before = x.found(1);
        boolean is = Calls.ask(x, call, numbers) != Due.BEYOND;
        Due.yes(Calls.text(call, numbers) + " is not beyond", is);
        Due.is(Calls.text(call, numbers) + ", then found(1)", before, x.found(1));
    }

    private static void beyond(String call, int[] numbers) {
        // check alone uses up the numbers that wait, though it answers BEYOND.
        Scene.refuses("", Calls.text(call, numbers), Due.BEYOND, call.equals("check"));
    }

    /** Several wrong numbers are one finding. */
    private static void allAtOnce(String call, List<int[]> ranges) {
        int[] numbers = new int[ranges.size()];
        for (int i = 0; i < numbers.length; i++) {
            numbers[i] = ranges.get(i)[1] - 1;
        }
        beyond(call, numbers);
    }
}
