import java.util.ArrayList;
import java.util.HashSet;
import java.util.List;
import java.util.Set;

/**
 * Long runs of calls, ordinary and wrong ones, against a model written straight from the document
 * over lists of letters. The calls come from a fixed row of numbers, so every run is the same.
 */
public final class ModelTest {
    private static final int OBJECTS = 120;
    private static final int CALLS = 512;
    private static final int BAD_ARG = -1;
    private static final int FULL = -2;
    private static final int NONE = -4;

    private static int wrong = 0;
    private static long seed = 20261115L;

    /** The sorts of answers that were due, to see that the runs met every one. */
    private static final Set<String> met = new HashSet<>();

    private record Rule(int kind, int x, int y, int left, int right) {
        boolean has(int before, int behind) {
            return (left / (1 << before)) % 2 == 1 && (right / (1 << behind)) % 2 == 1;
        }

        List<Integer> of(List<Integer> word) {
            List<Integer> made = new ArrayList<>();
            for (int place = 0; place <= word.size(); place++) {
                int before = place == 0 ? 4 : word.get(place - 1);
                int here = place == word.size() ? 4 : word.get(place);
                int next = place + 1 >= word.size() ? 4 : word.get(place + 1);
                if (kind == 2 && has(before, here)) {
                    made.add(y);
                }
                if (here == 4) {
                    break;
                }
                if (kind == 2 || here != x || !has(before, next)) {
                    made.add(here);
                } else if (kind == 0) {
                    made.add(y);
                }
            }
            return made.size() > 12 ? new ArrayList<>(made.subList(0, 12)) : made;
        }
    }

    private static final class Model {
        List<Rule> rules = new ArrayList<>();
        List<Integer> word = new ArrayList<>();

        static List<Integer> result(List<Rule> rules, List<Integer> word) {
            List<Integer> made = word;
            for (Rule rule : rules) {
                made = rule.of(made);
            }
            return made;
        }

        static int code(List<Integer> word) {
            int code = 1;
            for (int letter : word) {
                code = 4 * code + letter;
            }
            return code;
        }

        static List<List<Integer>> words(int n) {
            List<List<Integer>> words = new ArrayList<>();
            words.add(new ArrayList<>());
            for (int i = 0; i < n; i++) {
                List<List<Integer>> longer = new ArrayList<>();
                for (List<Integer> shorter : words) {
                    for (int letter = 0; letter < 4; letter++) {
                        List<Integer> one = new ArrayList<>(shorter);
                        one.add(letter);
                        longer.add(one);
                    }
                }
                words = longer;
            }
            return words;
        }

        boolean badLength(int n) {
            return n < 0 || n > 5;
        }

        int rule(int kind, int x, int y, int sides) {
            boolean xGood = x >= 0 && x <= 3 || kind == 2;
            boolean yGood = y >= 0 && y <= 3 || kind == 1;
            if (kind < 0 || kind > 2 || !xGood || !yGood || sides < 0 || sides > 1023) {
                return BAD_ARG;
            }
            if (rules.size() == 5) {
                return FULL;
            }
            rules.add(new Rule(kind, x, y, sides % 32, sides / 32));
            return rules.size();
        }

        int drop(int k) {
            if (k < 0 || k >= rules.size()) {
                return NONE;
            }
            rules.remove(k);
            return rules.size();
        }

        boolean noPair(int k) {
            return k < 0 || (long) k + 1 >= rules.size();
        }

        List<Rule> exchanged(int k) {
            List<Rule> other = new ArrayList<>(rules);
            other.add(k, other.remove(k + 1));
            return other;
        }

        int swap(int k) {
            if (noPair(k)) {
                return NONE;
            }
            rules = exchanged(k);
            return 0;
        }

        int push(int letter) {
            if (letter < 0 || letter > 3) {
                return BAD_ARG;
            }
            if (word.size() == 12) {
                return FULL;
            }
            word.add(letter);
            return word.size();
        }

        int clear() {
            int length = word.size();
            word = new ArrayList<>();
            return length;
        }

        int apply() {
            word = new ArrayList<>(result(rules, word));
            return word.size();
        }

        int after(int k) {
            if (k < 0 || k > rules.size()) {
                return BAD_ARG;
            }
            return code(result(rules.subList(0, k), word));
        }

        int letter(int i) {
            List<Integer> made = result(rules, word);
            return i < 0 || i >= made.size() ? NONE : made.get(i);
        }

        List<Integer> sourceCodes(int n) {
            List<Integer> codes = new ArrayList<>();
            for (List<Integer> one : words(n)) {
                if (result(rules, one).equals(word)) {
                    codes.add(code(one));
                }
            }
            codes.sort(null);
            return codes;
        }

        int sources(int n) {
            return badLength(n) ? BAD_ARG : sourceCodes(n).size();
        }

        int source(int n, int k) {
            if (badLength(n)) {
                return BAD_ARG;
            }
            List<Integer> codes = sourceCodes(n);
            return k < 0 || k >= codes.size() ? NONE : codes.get(k);
        }

        int images(int n) {
            if (badLength(n)) {
                return BAD_ARG;
            }
            Set<List<Integer>> results = new HashSet<>();
            for (List<Integer> one : words(n)) {
                results.add(result(rules, one));
            }
            return results.size();
        }

        int alike(List<Rule> other, int n) {
            for (List<Integer> one : words(n)) {
                if (!result(rules, one).equals(result(other, one))) {
                    return 0;
                }
            }
            return 1;
        }

        int commute(int k, int n) {
            if (noPair(k)) {
                return NONE;
            }
            return badLength(n) ? BAD_ARG : alike(exchanged(k), n);
        }

        int idle(int k, int n) {
            if (k < 0 || k >= rules.size()) {
                return NONE;
            }
            List<Rule> other = new ArrayList<>(rules);
            other.remove(k);
            return badLength(n) ? BAD_ARG : alike(other, n);
        }

        int still(int n) {
            if (badLength(n)) {
                return BAD_ARG;
            }
            int count = 0;
            for (List<Integer> one : words(n)) {
                if (result(rules, one).equals(one)) {
                    count++;
                }
            }
            return count;
        }
    }

    private static int pick(int bound) {
        seed = seed * 6364136223846793005L + 1442695040888963407L;
        return (int) ((seed >>> 33) % bound);
    }

    /** Mostly from 0 to most, now and then right beside it or at the ends of int. */
    private static int argument(int most) {
        switch (pick(24)) {
            case 0: return -1;
            case 1: return most + 1;
            case 2: return pick(2) == 0 ? Integer.MAX_VALUE : Integer.MIN_VALUE;
            default: return pick(most + 1);
        }
    }

    /** Sets with many members, as thin ones would hardly ever fit. */
    private static int sides() {
        switch (pick(4)) {
            case 0: return argument(1023);
            case 1: return 1023;
            default: return pick(1024) | pick(1024);
        }
    }

    /** Short words mostly: the long ones cost most and are met often enough. */
    private static int length() {
        return pick(6) == 0 ? argument(5) : pick(4);
    }

    private static void due(String call, int got, int want) {
        String name = call.substring(call.lastIndexOf(": ") + 2, call.indexOf('('));
        met.add(name + " " + (want < 0 ? String.valueOf(want) : want > 1 ? "more" : want));
        if (got != want && wrong++ < 20) {
            System.out.println(call + " answered " + got + ", due is " + want);
        }
    }

    private static void oneCall(String at, RuleCascade x, Model m) {
        int k = argument(5);
        int n = length();
        switch (pick(17)) {
            case 0: case 1: {
                int kind = argument(2);
                int a = argument(3);
                int b = argument(3);
                int sides = sides();
                due(at + "rule(" + kind + ", " + a + ", " + b + ", " + sides + ")",
                        x.rule(kind, a, b, sides), m.rule(kind, a, b, sides));
                break;
            }
            case 2: due(at + "drop(" + k + ")", x.drop(k), m.drop(k)); break;
            case 3: due(at + "swap(" + k + ")", x.swap(k), m.swap(k)); break;
            case 4: case 5: case 6: {
                int letter = argument(3);
                due(at + "push(" + letter + ")", x.push(letter), m.push(letter));
                break;
            }
            case 7:
                if (pick(3) == 0) {
                    due(at + "clear()", x.clear(), m.clear());
                }
                break;
            case 8: due(at + "apply()", x.apply(), m.apply()); break;
            case 9: due(at + "after(" + k + ")", x.after(k), m.after(k)); break;
            case 10: {
                int i = argument(12);
                due(at + "letter(" + i + ")", x.letter(i), m.letter(i));
                break;
            }
            case 11: due(at + "sources(" + n + ")", x.sources(n), m.sources(n)); break;
            case 12: due(at + "source(" + n + ", " + k + ")", x.source(n, k), m.source(n, k)); break;
            case 13: due(at + "images(" + n + ")", x.images(n), m.images(n)); break;
            case 14: due(at + "commute(" + k + ", " + n + ")", x.commute(k, n), m.commute(k, n)); break;
            case 15: due(at + "idle(" + k + ", " + n + ")", x.idle(k, n), m.idle(k, n)); break;
            default: due(at + "still(" + n + ")", x.still(n), m.still(n)); break;
        }
    }

    public static void main(String[] args) {
        for (int object = 1; object <= OBJECTS; object++) {
            RuleCascade x = new RuleCascade();
            Model m = new Model();
            for (int call = 1; call <= CALLS; call++) {
                oneCall("object " + object + ", call " + call + ": ", x, m);
            }
        }
        String[] wanted = {"rule -1", "rule -2", "rule more", "drop -4", "drop more", "swap -4",
            "swap 0", "push -1", "push -2", "push more", "clear 0", "clear more", "apply 0",
            "apply more", "after -1", "after 1", "after more", "letter -4", "letter 0", "letter 1",
            "letter more", "sources -1", "sources 0", "sources 1", "sources more", "source -1",
            "source -4", "source 1", "source more", "images -1", "images 1", "images more",
            "commute -1", "commute -4", "commute 0", "commute 1", "idle -1", "idle -4", "idle 0",
            "idle 1", "still -1", "still 0", "still 1", "still more"};
        for (String one : wanted) {
            if (!met.contains(one)) {
                wrong++;
                System.out.println("the runs never met " + one);
            }
        }
        System.out.println(wrong == 0 ? "all answers are the model's" : wrong + " things are wrong");
        if (wrong != 0) {
            System.exit(1);
        }
    }
}
