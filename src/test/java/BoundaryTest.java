import java.util.ArrayList;
import java.util.List;
import java.util.function.Supplier;
import java.util.function.ToIntFunction;

/**
 * Each sentence of the document, or part of one, that names a boundary (too small, too large,
 * empty, full, a wrap-around, a refused call), by itself and on objects of its own. What is asked
 * through refused() is also looked at for what it must not change, and a call that throws is a
 * failure of its sentence.
 */
public final class BoundaryTest {
    private static final int BAD_ARG = -1;
    private static final int FULL = -2;
    private static final int NONE = -4;
    private static final int MIN = Integer.MIN_VALUE;
    private static final int MAX = Integer.MAX_VALUE;

    private static final int ANY = 31;
    private static final int EDGE = 16;
    private static final int EVERYWHERE = sides(ANY, ANY);
    private static final int MOST_CALLS = 512;

    private static int wrong = 0;
    private static int sentences = 0;
    private static String sentence = "";

    public static void main(String[] args) {
        terms();
        rulesAndWord();
        results();
        asking();
        order();
        System.out.println(sentences + " sentences, " + wrong + " answers not as due");
        if (wrong != 0) {
            System.exit(1);
        }
    }

    private static void terms() {
        says("Terms: letters are 0 to 3", BoundaryTest::lettersAreZeroToThree);
        says("Terms: a word is a row of at most 12 letters", BoundaryTest::atMostTwelveLetters);
        says("Terms: where there is no neighbour, it is the edge", BoundaryTest::edgeIsNeighbour);
        says("Terms: a set is a sum, 16 for the edge", BoundaryTest::setsAreSums);
        says("Terms: at most 5 rules, numbered from 0 on", BoundaryTest::atMostFiveRules);
        says("Terms: at all places at the same time", BoundaryTest::allPlacesAtOnce);
        says("Terms: kind 0, every such letter becomes y", BoundaryTest::everySuchLetterBecomesY);
        says("Terms: kind 1, every such letter goes", BoundaryTest::everySuchLetterGoes);
        says("Terms: kind 2, before every letter, and at the end", BoundaryTest::insertPlaces);
        says("Terms: kind 2, a letter or the edge", BoundaryTest::insertIntoEmptyWord);
        says("Terms: of more than 12 only the first 12 stay", BoundaryTest::firstTwelveStay);
        says("Terms: they are cut then, after each rule", BoundaryTest::cutAfterEachRule);
        says("Terms: rule 0 first, then rule 1 of that", BoundaryTest::ruleZeroFirst);
        says("Terms: without rules it is the word itself", BoundaryTest::resultWithoutRules);
        says("Terms: the code is 1 for the empty word", BoundaryTest::codeOfEmptyWord);
        says("Terms: else 4 times the code so far plus the letter", BoundaryTest::codeOfOtherWords);
        says("Terms: no call ever throws", BoundaryTest::noCallThrows);
        says("What it is: at most 512 calls", BoundaryTest::lastOfTheCalls);
        says("The constants", BoundaryTest::constants);
    }

    private static void rulesAndWord() {
        says("1: no rules", BoundaryTest::newHasNoRules);
        says("1: the word is empty", BoundaryTest::newHasEmptyWord);
        says("2: kind not 0 to 2 answers BAD_ARG", BoundaryTest::ruleKind);
        says("2: x not 0 to 3 (kinds 0 and 1)", BoundaryTest::ruleX);
        says("2: y not 0 to 3 (kinds 0 and 2)", BoundaryTest::ruleY);
        says("2: sides not 0 to 1023", BoundaryTest::ruleSides);
        says("2: sides is the left set plus 32 times the right set", BoundaryTest::ruleSidesParts);
        says("2: there are 5 rules answers FULL", BoundaryTest::ruleFull);
        says("2: adds at the end; how many rules there are", BoundaryTest::ruleCounts);
        says("3: NONE if there is no rule k", BoundaryTest::dropNone);
        says("3: takes rule k out; how many are left", BoundaryTest::dropEach);
        says("4: NONE if there are no two such ones", BoundaryTest::swapNone);
        says("4: exchanges rules k and k + 1; otherwise 0", BoundaryTest::swapEach);
        says("5: letter not 0 to 3 answers BAD_ARG", BoundaryTest::pushLetter);
        says("5: FULL", BoundaryTest::pushFull);
        says("5: otherwise the word's length", BoundaryTest::pushLength);
        says("6: answers its length before", BoundaryTest::clearLength);
        says("6: the word becomes empty", BoundaryTest::clearEmpties);
    }

    private static void results() {
        says("7: the word becomes its result", BoundaryTest::applyResult);
        says("7: answers its length", BoundaryTest::applyLength);
        says("8: what the first k rules make of the word", BoundaryTest::afterEach);
        says("8: BAD_ARG if k is not 0 to the number of rules", BoundaryTest::afterBad);
        says("9: letter i of the result", BoundaryTest::letterEach);
        says("9: NONE if there is none", BoundaryTest::letterNone);
    }

    private static void asking() {
        says("10: BAD_ARG if n is not 0 to 5", () -> lengthIsLooked("sources", x -> n -> x.sources(n)));
        says("10: how many words have it as their result", BoundaryTest::sourcesFromNoneToAll);
        says("11: BAD_ARG if n is not 0 to 5", () -> lengthIsLooked("source", x -> n -> x.source(n, 0)));
        says("11: k such words with lesser codes before it", BoundaryTest::sourceFromFirstToLast);
        says("11: NONE if there is none", BoundaryTest::sourceNone);
        says("12: BAD_ARG if n is not 0 to 5", () -> lengthIsLooked("images", x -> n -> x.images(n)));
        says("12: how many different results", BoundaryTest::imagesFromOneToAll);
        says("13: no two such rules answers NONE", BoundaryTest::commuteNone);
        says("13: n not 0 to 5 answers BAD_ARG", () -> lengthIsLooked("commute", x -> n -> x.commute(3, n)));
        says("13: 1 if all words keep their results, else 0", BoundaryTest::commuteAllOrNotAll);
        says("14: no rule k answers NONE", BoundaryTest::idleNone);
        says("14: n not 0 to 5 answers BAD_ARG", () -> lengthIsLooked("idle", x -> n -> x.idle(4, n)));
        says("14: 1 if all words keep their results, else 0", BoundaryTest::idleAllOrNotAll);
        says("15: BAD_ARG if n is not 0 to 5", () -> lengthIsLooked("still", x -> n -> x.still(n)));
        says("15: how many words are their own results", BoundaryTest::stillFromNoneToAll);
    }

    private static void order() {
        says("2: BAD_ARG is tested before FULL", BoundaryTest::ruleOrder);
        says("5: BAD_ARG is tested before FULL", BoundaryTest::pushOrder);
        says("13: NONE is tested before BAD_ARG", BoundaryTest::commuteOrder);
        says("14: NONE is tested before BAD_ARG", BoundaryTest::idleOrder);
        says("16: source: BAD_ARG is tested before NONE", BoundaryTest::sourceOrder);
    }

    // ---- how a sentence is tested ----

    private interface Asked {
        ToIntFunction<Integer> of(RuleCascade x);
    }

    private static void says(String what, Runnable test) {
        sentence = what;
        sentences++;
        try {
            test.run();
        } catch (RuntimeException | Error thrown) {
            wrong++;
            System.out.println(sentence + ": threw " + thrown);
        }
    }

    private static void due(String call, int got, int want) {
        if (got != want) {
            wrong++;
            System.out.println(sentence + ": " + call + " answered " + got + ", due is " + want);
        }
    }

    /** The call answers the code and leaves the object as it was. */
    private static void refused(String call, int code, Supplier<RuleCascade> made,
            ToIntFunction<RuleCascade> asked) {
        due(call, asked.applyAsInt(made.get()), code);
        List<Integer> now = picture(() -> {
            RuleCascade x = made.get();
            asked.applyAsInt(x);
            return x;
        });
        due(call + " changes nothing, which", now.equals(picture(made)) ? 1 : 0, 1);
    }

    /**
     * All there is to the state: the word, the number of rules, and what each rule alone makes of
     * every word of at most 3 letters, which shows its kind, its letters and both its sets.
     */
    private static List<Integer> picture(Supplier<RuleCascade> made) {
        List<Integer> seen = new ArrayList<>();
        seen.add(made.get().after(0));
        int rules = made.get().drop(0) + 1;
        rules = rules < 0 ? 0 : rules;
        seen.add(rules);
        for (int k = 0; k < rules; k++) {
            RuleCascade x = made.get();
            for (int last = rules - 1; last > k; last--) {
                x.drop(last);
            }
            for (int first = 0; first < k; first++) {
                x.drop(0);
            }
            pictureOfOneRule(x, seen);
        }
        return seen;
    }

    private static void pictureOfOneRule(RuleCascade x, List<Integer> seen) {
        for (int word = 0; word < 64; word++) {
            x.clear();
            seen.add(x.after(1));
            for (int place = 16; place > 0; place /= 4) {
                x.push(word / place % 4);
                seen.add(x.after(1));
            }
        }
    }

    /** Numbers that are not 0 to most: right beside it, and such as wrap around in some arithmetic. */
    private static int[] outside(int most) {
        int[] tried = {-1, -2, -3, -4, -5, -12, -16, -31, -32, -256, -1024, -65536, -(1 << 30), MIN,
            MIN + 1, MIN + 2, most + 1, most + 2, 3, 4, 5, 6, 7, 8, 12, 13, 15, 16, 17, 31, 32, 33, 64,
            128, 256, 257, 1023, 1024, 1025, 65535, 65536, 65537, 1 << 24, 1 << 30, (1 << 30) + 1,
            MAX - 5, MAX - 4, MAX - 3, MAX - 2, MAX - 1, MAX};
        List<Integer> bad = new ArrayList<>();
        for (int one : tried) {
            if (one < 0 || one > most) {
                bad.add(one);
            }
        }
        return bad.stream().mapToInt(Integer::intValue).toArray();
    }

    private static int sides(int left, int right) {
        return left + 32 * right;
    }

    private static int code(String word) {
        return word.isEmpty() ? 1 : Integer.parseInt("1" + word, 4);
    }

    private static RuleCascade withWord(String word) {
        RuleCascade x = new RuleCascade();
        spell(x, word);
        return x;
    }

    private static void spell(RuleCascade x, String word) {
        x.clear();
        for (char letter : word.toCharArray()) {
            x.push(letter - '0');
        }
    }

    /** Five rules that differ from each other in what they make, and a word. */
    private static RuleCascade withFiveRules(String word) {
        RuleCascade x = withWord(word);
        x.rule(0, 0, 1, sides(ANY, 15));
        x.rule(1, 1, 0, sides(1 << 2, ANY));
        x.rule(2, 0, 2, sides(EDGE, 1 << 3));
        x.rule(0, 3, 0, sides(15, EDGE));
        x.rule(2, 0, 3, sides(1 << 0, 1 << 0));
        return x;
    }

    private static RuleCascade withFirstRules(int rules, String word) {
        RuleCascade x = withFiveRules(word);
        for (int k = 4; k >= rules; k--) {
            x.drop(k);
        }
        return x;
    }

    /** Rule k puts letter k mod 4 at the end, so the result tells the order of the rules. */
    private static RuleCascade withAppendingRules(int rules) {
        RuleCascade x = new RuleCascade();
        for (int k = 0; k < rules; k++) {
            x.rule(2, 0, k % 4, sides(ANY, EDGE));
        }
        return x;
    }

    private static void makes(int kind, int x, int y, int sides, String from, String to) {
        RuleCascade one = withWord(from);
        one.rule(kind, x, y, sides);
        due("kind " + kind + ", " + x + ", " + y + ", sides " + sides + " on '" + from + "'",
                one.after(1), code(to));
    }

    // ---- terms ----

    private static void lettersAreZeroToThree() {
        for (int letter = 0; letter <= 3; letter++) {
            RuleCascade x = new RuleCascade();
            due("push(" + letter + ")", x.push(letter), 1);
            due("letter(0)", x.letter(0), letter);
            makes(0, letter, 3 - letter, EVERYWHERE, "" + letter, "" + (3 - letter));
            makes(1, letter, 0, EVERYWHERE, "" + letter, "");
            makes(2, 0, letter, sides(EDGE, EDGE), "", "" + letter);
        }
    }

    private static void atMostTwelveLetters() {
        RuleCascade x = new RuleCascade();
        for (int length = 1; length <= 12; length++) {
            due("push number " + length, x.push(3), length);
        }
        due("push number 13", x.push(3), FULL);
        due("clear()", x.clear(), 12);
    }

    private static void edgeIsNeighbour() {
        makes(0, 0, 1, sides(EDGE, ANY), "00", "10");
        makes(0, 0, 1, sides(ANY, EDGE), "00", "01");
        makes(0, 0, 1, sides(EDGE, EDGE), "0", "1");
        makes(0, 0, 1, sides(15, ANY), "00", "01");
        makes(0, 0, 1, sides(ANY, 15), "00", "10");
        makes(0, 0, 1, sides(15, ANY), "0", "0");
        makes(0, 0, 1, sides(ANY, 15), "0", "0");
        makes(1, 0, 0, sides(EDGE, ANY), "000000000000", "00000000000");
        makes(1, 3, 0, sides(ANY, EDGE), "333333333333", "33333333333");
        makes(0, 3, 1, sides(ANY, EDGE), "333333333333", "333333333331");
        makes(0, 3, 1, sides(EDGE, ANY), "333333333333", "133333333333");
    }

    private static void setsAreSums() {
        for (int member = 0; member <= 4; member++) {
            for (int other = 0; other <= 4; other++) {
                String before = other == 4 ? "" : "" + other;
                String to = member == other ? "2" : "1";
                makes(0, 1, 2, sides(1 << member, 1), before + "10", before + to + "0");
                makes(0, 1, 2, sides(1, 1 << member), "01" + before, "0" + to + before);
            }
        }
        makes(0, 0, 3, 0, "000", "000");
        makes(1, 0, 0, 0, "000", "000");
        makes(2, 0, 3, 0, "", "");
        makes(2, 0, 3, sides(ANY, 0), "000", "000");
        makes(2, 0, 3, sides(0, ANY), "000", "000");
    }

    private static void atMostFiveRules() {
        RuleCascade x = new RuleCascade();
        for (int rules = 1; rules <= 5; rules++) {
            due("rule number " + rules, x.rule(2, 0, rules % 4, sides(ANY, EDGE)), rules);
        }
        due("a sixth one", x.rule(2, 0, 0, sides(ANY, EDGE)), FULL);
        due("after(1): rule 0", x.after(1), code("1"));
        due("after(5): rules 0 to 4", x.after(5), code("12301"));
    }

    private static void allPlacesAtOnce() {
        makes(0, 0, 1, sides(1 << 1, ANY), "1000", "1100");
        makes(0, 0, 1, sides(ANY, 1 << 1), "0001", "0011");
        makes(0, 0, 1, sides(1 << 0, 1 << 0), "00000", "01110");
        makes(1, 0, 0, sides(EDGE, ANY), "000", "00");
        makes(1, 0, 0, sides(ANY, EDGE), "000", "00");
        makes(1, 0, 0, sides(1 << 0, ANY), "000", "0");
        makes(1, 0, 0, sides(ANY, 1 << 0), "000", "0");
        makes(2, 0, 1, sides(EDGE, ANY), "1", "11");
        makes(2, 0, 1, sides(1 << 1, 1 << 1), "11", "111");
        makes(2, 0, 1, sides(1 << 1, EDGE), "1", "11");
    }

    private static void everySuchLetterBecomesY() {
        makes(0, 2, 0, EVERYWHERE, "", "");
        makes(0, 2, 0, EVERYWHERE, "2", "0");
        makes(0, 2, 0, EVERYWHERE, "222222222222", "000000000000");
        makes(0, 2, 0, EVERYWHERE, "013301330133", "013301330133");
        makes(0, 2, 2, EVERYWHERE, "222", "222");
        makes(0, 2, 0, sides(1 << 1, 1 << 3), "123121323123", "103121323103");
    }

    private static void everySuchLetterGoes() {
        makes(1, 2, 0, EVERYWHERE, "", "");
        makes(1, 2, 0, EVERYWHERE, "2", "");
        makes(1, 2, 0, EVERYWHERE, "222222222222", "");
        makes(1, 0, 0, EVERYWHERE, "000000000000", "");
        makes(1, 2, 0, EVERYWHERE, "013301330133", "013301330133");
        makes(1, 2, 0, sides(1 << 1, 1 << 3), "123121323123", "1312132313");
    }

    private static void insertPlaces() {
        makes(2, 0, 3, EVERYWHERE, "0", "303");
        makes(2, 0, 3, EVERYWHERE, "012", "3031323");
        makes(2, 0, 3, sides(EDGE, 15), "012", "3012");
        makes(2, 0, 3, sides(15, EDGE), "012", "0123");
        makes(2, 0, 3, sides(15, 15), "012", "03132");
        makes(2, 0, 3, sides(1 << 1, 1 << 2), "012", "0132");
        makes(2, 0, 3, sides(1 << 2, 1 << 1), "012", "012");
        makes(2, 0, 3, sides(EDGE, EDGE), "0", "0");
    }

    private static void insertIntoEmptyWord() {
        makes(2, 0, 3, EVERYWHERE, "", "3");
        makes(2, 0, 0, sides(EDGE, EDGE), "", "0");
        makes(2, 0, 3, sides(EDGE, 15), "", "");
        makes(2, 0, 3, sides(15, EDGE), "", "");
        makes(2, 0, 3, sides(15, 15), "", "");
    }

    private static void firstTwelveStay() {
        makes(2, 0, 3, EVERYWHERE, "01201", "30313230313");
        makes(2, 0, 3, sides(15, ANY), "012012", "031323031323");
        makes(2, 0, 3, EVERYWHERE, "012012", "303132303132");
        makes(2, 0, 3, EVERYWHERE, "012012012012", "303132303132");
        makes(2, 0, 3, sides(ANY, EDGE), "01201201201", "012012012013");
        makes(2, 0, 3, sides(ANY, EDGE), "012012012012", "012012012012");
        makes(2, 0, 3, sides(EDGE, ANY), "01201201201", "301201201201");
        makes(2, 0, 3, sides(EDGE, ANY), "012012012012", "301201201201");
        makes(2, 0, 3, sides(15, 1 << 2), "000000000012", "000000000013");
        makes(2, 0, 3, sides(15, 1 << 2), "000000000002", "000000000003");
        makes(2, 0, 0, EVERYWHERE, "000000000000", "000000000000");
        makes(2, 0, 3, EVERYWHERE, "333333333333", "333333333333");
    }

    private static void cutAfterEachRule() {
        RuleCascade x = withWord("012301230122");
        x.rule(2, 0, 3, sides(EDGE, ANY));
        x.rule(1, 3, 0, sides(EDGE, ANY));
        due("after(1)", x.after(1), code("301230123012"));
        due("after(2)", x.after(2), code("01230123012"));
        RuleCascade edge = withWord("000000000000");
        edge.rule(2, 0, 1, sides(EDGE, ANY));
        edge.rule(0, 0, 2, sides(ANY, EDGE));
        due("the 12th letter stands at the edge then", edge.after(2), code("100000000002"));
    }

    private static void ruleZeroFirst() {
        RuleCascade x = withWord("0");
        x.rule(0, 0, 1, EVERYWHERE);
        x.rule(0, 1, 2, EVERYWHERE);
        due("0 to 1, 1 to 2: letter(0)", x.letter(0), 2);
        x.swap(0);
        due("1 to 2, 0 to 1: letter(0)", x.letter(0), 1);
    }

    private static void resultWithoutRules() {
        for (String word : new String[] {"", "0", "3", "0123", "000000000000", "333333333333"}) {
            RuleCascade x = withWord(word);
            due("after(0) of '" + word + "'", x.after(0), code(word));
            due("apply() of '" + word + "'", x.apply(), word.length());
            due("then after(0)", x.after(0), code(word));
        }
        RuleCascade x = withWord("01");
        due("sources(2)", x.sources(2), 1);
        due("source(2, 0)", x.source(2, 0), code("01"));
        due("images(5)", x.images(5), 1024);
        due("still(5)", x.still(5), 1024);
    }

    private static void codeOfEmptyWord() {
        due("a new word", new RuleCascade().after(0), 1);
        RuleCascade x = withWord("33");
        x.clear();
        due("a cleared word", x.after(0), 1);
        due("as a source", x.source(0, 0), 1);
        x.push(2);
        x.rule(1, 2, 0, EVERYWHERE);
        due("as a result", x.after(1), 1);
    }

    private static void codeOfOtherWords() {
        due("'0'", withWord("0").after(0), 4);
        due("'3'", withWord("3").after(0), 7);
        due("'00'", withWord("00").after(0), 16);
        due("'0123'", withWord("0123").after(0), 283);
        due("the least of 12 letters", withWord("000000000000").after(0), 16777216);
        due("the greatest of 12 letters", withWord("333333333333").after(0), 33554431);
        due("the greatest of 11 letters", withWord("33333333333").after(0), 8388607);
    }

    /** Every pair of far-off numbers in states from the emptiest to the fullest. */
    private static void noCallThrows() {
        for (int rules = 0; rules <= 5; rules++) {
            for (String word : new String[] {"", "0", "333333333333"}) {
                for (int far : outside(1024)) {
                    farOffCalls(rules, word, far);
                }
            }
        }
    }

    private static void farOffCalls(int rules, String word, int far) {
        RuleCascade x = withFirstRules(rules, word);
        String at = " at " + far + " with " + rules + " rules and '" + word + "'";
        due("rule" + at, x.rule(far, far, far, far), BAD_ARG);
        due("drop" + at, x.drop(far), NONE);
        due("swap" + at, x.swap(far), NONE);
        due("push" + at, x.push(far), BAD_ARG);
        due("after" + at, x.after(far), BAD_ARG);
        due("letter" + at, x.letter(far), NONE);
        due("sources" + at, x.sources(far), BAD_ARG);
        due("source" + at, x.source(far, far), BAD_ARG);
        due("source k" + at, x.source(5, far), NONE);
        due("images" + at, x.images(far), BAD_ARG);
        due("commute" + at, x.commute(far, far), NONE);
        due("commute n" + at, x.commute(0, far), rules < 2 ? NONE : BAD_ARG);
        due("idle" + at, x.idle(far, far), NONE);
        due("idle n" + at, x.idle(0, far), rules < 1 ? NONE : BAD_ARG);
        due("still" + at, x.still(far), BAD_ARG);
        due("then clear()" + at, x.clear(), word.length());
    }

    private static void lastOfTheCalls() {
        RuleCascade x = new RuleCascade();
        for (int call = 1; call + 2 <= MOST_CALLS; call += 3) {
            due("call " + call, x.push(call % 4), 1);
            due("call " + (call + 1), x.letter(0), call % 4);
            due("call " + (call + 2), x.clear(), 1);
        }
        due("call 511", x.push(3), 1);
        due("call 512", x.letter(0), 3);
        RuleCascade filled = new RuleCascade();
        for (int call = 1; call <= MOST_CALLS - 2; call++) {
            due("rule, call " + call, filled.rule(2, 0, 1, EVERYWHERE), call <= 5 ? call : FULL);
        }
        due("call 511", filled.images(5), 1);
        due("call 512", filled.after(5), code("111111111111"));
    }

    private static void constants() {
        due("BAD_ARG", RuleCascade.BAD_ARG, -1);
        due("FULL", RuleCascade.FULL, -2);
        due("NONE", RuleCascade.NONE, -4);
    }

    // ---- promises 1 to 6 ----

    private static void newHasNoRules() {
        RuleCascade x = new RuleCascade();
        due("drop(0)", x.drop(0), NONE);
        due("after(1)", x.after(1), BAD_ARG);
        due("idle(0, 0)", x.idle(0, 0), NONE);
        due("the first rule", x.rule(0, 0, 0, 0), 1);
        due("the next object's first rule", new RuleCascade().rule(0, 0, 0, 0), 1);
    }

    private static void newHasEmptyWord() {
        RuleCascade x = new RuleCascade();
        due("after(0)", x.after(0), 1);
        due("letter(0)", x.letter(0), NONE);
        due("clear()", x.clear(), 0);
        due("push(3)", x.push(3), 1);
        due("the next object's clear()", new RuleCascade().clear(), 0);
    }

    private static void ruleKind() {
        for (int bad : outside(2)) {
            refused("rule(" + bad + ", 0, 0, 0)", BAD_ARG, () -> withFirstRules(2, "01"),
                    x -> x.rule(bad, 0, 0, 0));
        }
        for (int kind = 0; kind <= 2; kind++) {
            due("kind " + kind, new RuleCascade().rule(kind, 0, 0, 0), 1);
        }
    }

    private static void ruleX() {
        for (int bad : outside(3)) {
            for (int kind = 0; kind <= 1; kind++) {
                int looked = kind;
                refused("rule(" + kind + ", " + bad + ", 0, 0)", BAD_ARG,
                        () -> withFirstRules(1, "01"), x -> x.rule(looked, bad, 0, 0));
            }
            makes(2, bad, 1, EVERYWHERE, "0", "101");
            due("kind 2, x " + bad, new RuleCascade().rule(2, bad, 0, 0), 1);
        }
        for (int good = 0; good <= 3; good++) {
            due("kind 0, x " + good, new RuleCascade().rule(0, good, 0, 0), 1);
            due("kind 1, x " + good, new RuleCascade().rule(1, good, 0, 0), 1);
        }
    }

    private static void ruleY() {
        for (int bad : outside(3)) {
            for (int kind = 0; kind <= 2; kind += 2) {
                int looked = kind;
                refused("rule(" + kind + ", 0, " + bad + ", 0)", BAD_ARG,
                        () -> withFirstRules(1, "01"), x -> x.rule(looked, 0, bad, 0));
            }
            makes(1, 0, bad, EVERYWHERE, "010", "1");
            due("kind 1, y " + bad, new RuleCascade().rule(1, 0, bad, 0), 1);
        }
        for (int good = 0; good <= 3; good++) {
            due("kind 0, y " + good, new RuleCascade().rule(0, 0, good, 0), 1);
            due("kind 2, y " + good, new RuleCascade().rule(2, 0, good, 0), 1);
        }
    }

    private static void ruleSides() {
        for (int bad : outside(1023)) {
            for (int kind = 0; kind <= 2; kind++) {
                int looked = kind;
                refused("rule(" + kind + ", 0, 0, " + bad + ")", BAD_ARG,
                        () -> withFirstRules(1, "01"), x -> x.rule(looked, 0, 0, bad));
            }
        }
        for (int kind = 0; kind <= 2; kind++) {
            due("kind " + kind + ", sides 0", new RuleCascade().rule(kind, 0, 0, 0), 1);
            due("kind " + kind + ", sides 1023", new RuleCascade().rule(kind, 0, 0, 1023), 1);
        }
    }

    private static void ruleSidesParts() {
        makes(0, 1, 2, 1 + 32 * 8, "013", "023");
        makes(0, 1, 2, 1 + 32 * 8, "310", "310");
        makes(0, 1, 2, 16 + 32, "10", "20");
        makes(0, 1, 2, 1 + 32 * 16, "01", "02");
        makes(0, 1, 2, 31, "111", "111");
        makes(0, 1, 2, 32 * 31, "111", "111");
        makes(0, 1, 2, 1023, "111", "222");
    }

    private static void ruleFull() {
        refused("a sixth rule", FULL, () -> withFiveRules("0123"), x -> x.rule(0, 1, 2, 1023));
        refused("a sixth rule on a full word", FULL, () -> withFiveRules("333333333333"),
                x -> x.rule(2, 0, 0, 0));
        RuleCascade x = withFiveRules("");
        due("drop(2)", x.drop(2), 4);
        due("then there is room", x.rule(1, 0, 0, 0), 5);
        due("for one", x.rule(1, 0, 0, 0), FULL);
    }

    private static void ruleCounts() {
        RuleCascade x = withWord("3");
        for (int k = 0; k < 5; k++) {
            due("rule number " + (k + 1), x.rule(2, 0, k % 3, sides(ANY, EDGE)), k + 1);
            due("it stands at the end", x.letter(k + 1), k % 3);
        }
        RuleCascade same = new RuleCascade();
        due("a rule", same.rule(0, 1, 1, 7), 1);
        due("the same once more is another rule", same.rule(0, 1, 1, 7), 2);
    }

    private static void dropNone() {
        for (int rules = 0; rules <= 5; rules++) {
            int there = rules;
            for (int bad : outside(rules - 1)) {
                refused("drop(" + bad + ") of " + rules, NONE, () -> withFirstRules(there, "03"),
                        x -> x.drop(bad));
            }
        }
        refused("drop(0) of none", NONE, RuleCascade::new, x -> x.drop(0));
        RuleCascade emptied = withFirstRules(1, "");
        due("drop(0)", emptied.drop(0), 0);
        due("drop(0) of the emptied list", emptied.drop(0), NONE);
    }

    private static void dropEach() {
        for (int rules = 1; rules <= 5; rules++) {
            String all = "01230".substring(0, rules);
            for (int k = 0; k < rules; k++) {
                RuleCascade x = withAppendingRules(rules);
                due("drop(" + k + ") of " + rules, x.drop(k), rules - 1);
                due("what is left", x.after(rules - 1), code(all.substring(0, k) + all.substring(k + 1)));
                due("after(" + rules + ")", x.after(rules), BAD_ARG);
            }
        }
        RuleCascade x = withWord("012");
        x.rule(1, 0, 0, sides(EDGE, ANY));
        x.rule(0, 1, 3, sides(ANY, 1 << 2));
        x.rule(2, 0, 2, sides(1 << 2, EDGE));
        due("delete, change and insert", x.after(3), code("322"));
        x.drop(0);
        due("change and insert, each with its own letters and sets", x.after(2), code("0322"));
        due("change comes first", x.after(1), code("032"));
        x.drop(0);
        due("insert alone", x.after(1), code("0122"));
        due("the word stays", x.after(0), code("012"));
    }

    private static void swapNone() {
        for (int rules = 0; rules <= 5; rules++) {
            int there = rules;
            for (int bad : outside(rules - 2)) {
                refused("swap(" + bad + ") of " + rules, NONE, () -> withFirstRules(there, "03"),
                        x -> x.swap(bad));
            }
        }
        refused("swap(0) of none", NONE, RuleCascade::new, x -> x.swap(0));
        refused("swap(0) of one", NONE, () -> withFirstRules(1, ""), x -> x.swap(0));
        refused("swap(1) of two", NONE, () -> withFirstRules(2, ""), x -> x.swap(1));
    }

    private static void swapEach() {
        for (int rules = 2; rules <= 5; rules++) {
            String all = "01230".substring(0, rules);
            for (int k = 0; k < rules - 1; k++) {
                RuleCascade x = withAppendingRules(rules);
                due("swap(" + k + ") of " + rules, x.swap(k), 0);
                due("the rules now", x.after(rules), code(all.substring(0, k) + all.charAt(k + 1)
                        + all.charAt(k) + all.substring(k + 2)));
                due("swap(" + k + ") again", x.swap(k), 0);
                due("the rules again", x.after(rules), code(all));
            }
        }
        RuleCascade kinds = withWord("1");
        kinds.rule(2, 0, 1, sides(1 << 1, EDGE));
        kinds.rule(1, 1, 0, sides(EDGE, EDGE));
        due("insert, then delete", kinds.after(2), code("11"));
        kinds.swap(0);
        due("delete, then insert", kinds.after(2), code(""));
    }

    private static void pushLetter() {
        for (int bad : outside(3)) {
            refused("push(" + bad + ")", BAD_ARG, RuleCascade::new, x -> x.push(bad));
            refused("push(" + bad + ") on 11", BAD_ARG, () -> withFirstRules(1, "01230123012"),
                    x -> x.push(bad));
        }
        for (int good = 0; good <= 3; good++) {
            due("push(" + good + ")", new RuleCascade().push(good), 1);
        }
    }

    private static void pushFull() {
        for (int letter = 0; letter <= 3; letter++) {
            int pushed = letter;
            refused("push(" + letter + ") on twelve 0", FULL, () -> withWord("000000000000"),
                    x -> x.push(pushed));
            refused("push(" + letter + ") on twelve 3", FULL, () -> withFiveRules("333333333333"),
                    x -> x.push(pushed));
        }
        RuleCascade grown = withWord("0");
        grown.rule(2, 0, 0, EVERYWHERE);
        grown.apply();
        grown.apply();
        due("push on 7 letters that rules made", grown.push(1), 8);
        due("apply()", grown.apply(), 12);
        due("push on 12 letters that rules made", grown.push(1), FULL);
        grown.clear();
        due("push after clear()", grown.push(1), 1);
    }

    private static void pushLength() {
        RuleCascade x = new RuleCascade();
        for (int length = 1; length <= 12; length++) {
            due("push number " + length, x.push(0), length);
        }
        due("twelve 0", x.after(0), 16777216);
        RuleCascade ruled = withFirstRules(0, "");
        ruled.rule(1, 2, 0, EVERYWHERE);
        due("of the word, not of its result", ruled.push(2), 1);
        due("of the word, not of its result", ruled.push(2), 2);
    }

    private static void clearLength() {
        due("a new word", new RuleCascade().clear(), 0);
        String word = "";
        for (int length = 1; length <= 12; length++) {
            word = word + "0";
            due("0 only, " + length, withWord(word).clear(), length);
            due("3 only, " + length, withWord(word.replace('0', '3')).clear(), length);
        }
        RuleCascade x = withWord("22");
        x.rule(1, 2, 0, EVERYWHERE);
        due("of the word, not of its result", x.clear(), 2);
    }

    private static void clearEmpties() {
        RuleCascade x = withWord("333333333333");
        x.rule(2, 0, 1, sides(EDGE, EDGE));
        x.clear();
        due("after(0)", x.after(0), 1);
        due("the rules stay", x.after(1), code("1"));
        due("clear() again", x.clear(), 0);
        due("push(0)", x.push(0), 1);
    }

    // ---- promises 7 to 9 ----

    private static void applyResult() {
        RuleCascade x = withWord("");
        x.rule(2, 0, 3, sides(EDGE, EDGE));
        x.apply();
        due("from the empty word", x.after(0), code("3"));
        x.rule(1, 3, 0, EVERYWHERE);
        x.apply();
        due("to the empty word", x.after(0), 1);
        RuleCascade five = withAppendingRules(5);
        five.apply();
        due("by all five rules", five.after(0), code("01230"));
        five.apply();
        due("the rules stay", five.after(0), code("0123001230"));
        five.apply();
        due("up to the first 12", five.after(0), code("012300123001"));
        five.apply();
        due("where it stays", five.after(0), code("012300123001"));
    }

    private static void applyLength() {
        due("empty, no rules", new RuleCascade().apply(), 0);
        due("full, no rules", withWord("000000000000").apply(), 12);
        RuleCascade none = withWord("222222222222");
        none.rule(1, 2, 0, EVERYWHERE);
        due("from 12 to none", none.apply(), 0);
        due("none again", none.apply(), 0);
        RuleCascade more = new RuleCascade();
        more.rule(2, 0, 0, EVERYWHERE);
        int[] lengths = {1, 3, 7, 12, 12};
        for (int length : lengths) {
            due("apply() to " + length, more.apply(), length);
        }
    }

    private static void afterEach() {
        RuleCascade x = withAppendingRules(5);
        String made = "";
        for (int k = 0; k <= 5; k++) {
            due("after(" + k + ")", x.after(k), code(made));
            made = made + k % 4;
        }
        due("the word stays", x.after(0), 1);
    }

    private static void afterBad() {
        for (int rules = 0; rules <= 5; rules++) {
            int there = rules;
            for (int bad : outside(rules)) {
                refused("after(" + bad + ") of " + rules, BAD_ARG, () -> withFirstRules(there, "03"),
                        x -> x.after(bad));
            }
            due("after(" + rules + ") of " + rules, withAppendingRules(rules).after(rules),
                    code("01230".substring(0, rules)));
        }
    }

    private static void letterEach() {
        String word = "012332101203";
        RuleCascade x = withWord(word);
        for (int i = 0; i < 12; i++) {
            due("letter(" + i + ")", x.letter(i), word.charAt(i) - '0');
        }
        x.rule(1, 0, 0, sides(EDGE, ANY));
        due("of the result: letter(0)", x.letter(0), 1);
        due("of the result: letter(10)", x.letter(10), 3);
        due("the word stays", x.after(0), code(word));
    }

    private static void letterNone() {
        refused("letter(0) of the empty word", NONE, RuleCascade::new, x -> x.letter(0));
        String word = "";
        for (int length = 0; length <= 12; length++) {
            String now = word;
            for (int bad : outside(length - 1)) {
                refused("letter(" + bad + ") of " + length, NONE, () -> withWord(now),
                        x -> x.letter(bad));
            }
            refused("letter(" + length + ") of " + length, NONE, () -> withWord(now),
                    x -> x.letter(now.length()));
            word = word + "0";
        }
        RuleCascade x = withWord("12");
        x.rule(1, 1, 0, EVERYWHERE);
        due("the word has it, the result has not", x.letter(1), NONE);
        spell(x, "1");
        due("the result is empty", x.letter(0), NONE);
    }

    // ---- promises 10 to 15 ----

    private static void lengthIsLooked(String name, Asked asked) {
        for (int bad : outside(5)) {
            refused(name + " with n " + bad, BAD_ARG, () -> withFiveRules("01"),
                    x -> asked.of(x).applyAsInt(bad));
        }
        for (int good = 0; good <= 5; good++) {
            int got = asked.of(withFiveRules("01")).applyAsInt(good);
            due(name + " with n " + good + " is no BAD_ARG, which", got == BAD_ARG ? 0 : 1, 1);
        }
    }

    private static RuleCascade withAllGone(String word) {
        RuleCascade x = withWord(word);
        for (int letter = 0; letter <= 3; letter++) {
            x.rule(1, letter, 0, EVERYWHERE);
        }
        return x;
    }

    private static void sourcesFromNoneToAll() {
        int[] all = {1, 4, 16, 64, 256, 1024};
        for (int n = 0; n <= 5; n++) {
            due("all words give the empty one, sources(" + n + ")", withAllGone("").sources(n), all[n]);
            due("none gives another one, sources(" + n + ")", withAllGone("0").sources(n), 0);
            due("without rules, of the empty word", new RuleCascade().sources(n), n == 0 ? 1 : 0);
            due("of 12 letters", withWord("000000000000").sources(n), 0);
        }
        RuleCascade grown = withWord("303132303132");
        grown.rule(2, 0, 3, EVERYWHERE);
        due("no word of 5 letters gives 12", grown.sources(5), 0);
        spell(grown, "000000000000");
        grown.drop(0);
        for (int i = 0; i < 3; i++) {
            grown.rule(2, 0, 0, EVERYWHERE);
        }
        due("words that differ behind the cut alone", grown.sources(2), 4);
    }

    private static void sourceFromFirstToLast() {
        for (int n = 0; n <= 5; n++) {
            int first = 1 << (2 * n);
            due("source(" + n + ", 0)", withAllGone("").source(n, 0), first);
            due("source(" + n + ", last)", withAllGone("").source(n, first - 1), 2 * first - 1);
        }
        RuleCascade x = withWord("1");
        x.rule(0, 3, 1, EVERYWHERE);
        due("the first", x.source(1, 0), code("1"));
        due("the last", x.source(1, 1), code("3"));
    }

    private static void sourceNone() {
        for (int n = 0; n <= 5; n++) {
            int asked = n;
            int all = 1 << (2 * n);
            refused("source(" + n + ", " + all + ") of so many", NONE, () -> withAllGone(""),
                    x -> x.source(asked, all));
            refused("source(" + n + ", 0) of none", NONE, () -> withAllGone("0"),
                    x -> x.source(asked, 0));
            for (int bad : outside(1023)) {
                refused("source(" + n + ", " + bad + ")", NONE, () -> withAllGone(""),
                        x -> x.source(asked, bad));
                refused("source(" + n + ", " + bad + ") of none", NONE, () -> withAllGone("0"),
                        x -> x.source(asked, bad));
            }
        }
    }

    private static void imagesFromOneToAll() {
        int[] all = {1, 4, 16, 64, 256, 1024};
        RuleCascade many = new RuleCascade();
        RuleCascade one = withAllGone("");
        for (int n = 5; n >= 0; n--) {
            due("without rules, images(" + n + ")", many.images(n), all[n]);
            due("where all goes, images(" + n + ")", one.images(n), 1);
        }
        RuleCascade x = withWord("0");
        x.rule(1, 0, 0, EVERYWHERE);
        due("results of several lengths, images(1)", x.images(1), 4);
        due("results of several lengths, images(2)", x.images(2), 13);
        x.rule(2, 0, 0, sides(EDGE, EDGE));
        due("the empty result is none of them now", x.images(0), 1);
        RuleCascade cut = new RuleCascade();
        for (int i = 0; i < 4; i++) {
            cut.rule(2, 0, 0, EVERYWHERE);
        }
        due("results that differ behind the cut alone", cut.images(1), 1);
    }

    private static void commuteNone() {
        for (int rules = 0; rules <= 5; rules++) {
            int there = rules;
            for (int bad : outside(rules - 2)) {
                refused("commute(" + bad + ", 1) of " + rules, NONE, () -> withFirstRules(there, "03"),
                        x -> x.commute(bad, 1));
            }
        }
        refused("commute(0, 0) of none", NONE, RuleCascade::new, x -> x.commute(0, 0));
        refused("commute(0, 0) of one", NONE, () -> withFirstRules(1, ""), x -> x.commute(0, 0));
        refused("commute(1, 0) of two", NONE, () -> withFirstRules(2, ""), x -> x.commute(1, 0));
    }

    private static void commuteAllOrNotAll() {
        RuleCascade ends = withAppendingRules(5);
        for (int k = 0; k <= 3; k++) {
            due("ends differ, commute(" + k + ", 0)", ends.commute(k, 0), 0);
            due("ends differ, commute(" + k + ", 5)", ends.commute(k, 5), 0);
        }
        due("asking changes nothing", ends.after(5), code("01230"));
        RuleCascade same = new RuleCascade();
        for (int i = 0; i < 5; i++) {
            same.rule(2, 0, 1, EVERYWHERE);
        }
        for (int k = 0; k <= 3; k++) {
            due("the same rules, commute(" + k + ", 0)", same.commute(k, 0), 1);
            due("the same rules, commute(" + k + ", 5)", same.commute(k, 5), 1);
        }
        RuleCascade last = new RuleCascade();
        last.rule(0, 3, 2, sides(1 << 3, EDGE));
        last.rule(0, 3, 1, sides(1 << 3, EDGE));
        due("only 3 3 tells, commute(0, 1)", last.commute(0, 1), 1);
        due("only the last word tells, commute(0, 2)", last.commute(0, 2), 0);
        RuleCascade first = new RuleCascade();
        first.rule(0, 0, 2, sides(EDGE, EDGE));
        first.rule(0, 0, 1, sides(EDGE, EDGE));
        due("only the first word tells, commute(0, 1)", first.commute(0, 1), 0);
        due("none of two letters tells, commute(0, 2)", first.commute(0, 2), 1);
        RuleCascade apart = new RuleCascade();
        apart.rule(0, 2, 1, sides(1 << 0, 1 << 0));
        apart.rule(0, 2, 3, sides(1 << 0, 1 << 0));
        due("only 0 2 0 tells, commute(0, 0)", apart.commute(0, 0), 1);
        due("only 0 2 0 tells, commute(0, 1)", apart.commute(0, 1), 1);
        due("only 0 2 0 tells, commute(0, 2)", apart.commute(0, 2), 1);
        due("only 0 2 0 tells, commute(0, 3)", apart.commute(0, 3), 0);
        RuleCascade followed = new RuleCascade();
        followed.rule(0, 0, 1, EVERYWHERE);
        followed.rule(0, 2, 3, EVERYWHERE);
        followed.rule(2, 0, 3, sides(ANY, EDGE));
        due("a rule that follows does its work in both", followed.commute(0, 3), 1);
        RuleCascade hidden = new RuleCascade();
        hidden.rule(0, 0, 1, EVERYWHERE);
        hidden.rule(0, 1, 2, EVERYWHERE);
        due("before a later rule hides it", hidden.commute(0, 1), 0);
        hidden.rule(0, 1, 2, EVERYWHERE);
        due("the later rule hides it", hidden.commute(0, 1), 1);
    }

    private static void idleNone() {
        for (int rules = 0; rules <= 5; rules++) {
            int there = rules;
            for (int bad : outside(rules - 1)) {
                refused("idle(" + bad + ", 1) of " + rules, NONE, () -> withFirstRules(there, "03"),
                        x -> x.idle(bad, 1));
            }
        }
        refused("idle(0, 0) of none", NONE, RuleCascade::new, x -> x.idle(0, 0));
    }

    private static void idleAllOrNotAll() {
        RuleCascade ends = withAppendingRules(5);
        RuleCascade never = new RuleCascade();
        for (int i = 0; i < 5; i++) {
            never.rule(2, 0, 1, 0);
        }
        for (int k = 0; k <= 4; k++) {
            for (int n = 0; n <= 5; n++) {
                due("each adds a letter, idle(" + k + ", " + n + ")", ends.idle(k, n), 0);
                due("none fits, idle(" + k + ", " + n + ")", never.idle(k, n), 1);
            }
        }
        due("asking changes nothing", ends.after(5), code("01230"));
        RuleCascade last = new RuleCascade();
        last.rule(0, 3, 0, sides(1 << 3, EDGE));
        due("only 3 3 tells, idle(0, 1)", last.idle(0, 1), 1);
        due("some words tell, idle(0, 2)", last.idle(0, 2), 0);
        RuleCascade first = new RuleCascade();
        first.rule(2, 0, 0, sides(EDGE, EDGE));
        due("only the empty word tells, idle(0, 0)", first.idle(0, 0), 0);
        due("only the empty word tells, idle(0, 1)", first.idle(0, 1), 1);
        RuleCascade undone = new RuleCascade();
        undone.rule(2, 0, 0, EVERYWHERE);
        due("before a later rule undoes it", undone.idle(0, 3), 0);
        undone.rule(1, 0, 0, EVERYWHERE);
        due("a later rule undoes it", undone.idle(0, 3), 1);
    }

    private static void stillFromNoneToAll() {
        int[] all = {1, 4, 16, 64, 256, 1024};
        int[] three = {1, 3, 9, 27, 81, 243};
        RuleCascade changed = new RuleCascade();
        changed.rule(0, 0, 1, EVERYWHERE);
        RuleCascade longer = new RuleCascade();
        longer.rule(2, 0, 0, EVERYWHERE);
        for (int n = 0; n <= 5; n++) {
            due("without rules, still(" + n + ")", new RuleCascade().still(n), all[n]);
            due("where all grow, still(" + n + ")", longer.still(n), 0);
            due("where all goes, still(" + n + ")", withAllGone("").still(n), n == 0 ? 1 : 0);
            due("where 0 changes, still(" + n + ")", changed.still(n), three[n]);
        }
        RuleCascade back = new RuleCascade();
        back.rule(2, 0, 0, sides(EDGE, ANY));
        back.rule(1, 0, 0, sides(EDGE, ANY));
        due("there and back again, still(5)", back.still(5), 1024);
    }

    // ---- the order of the tests ----

    private static void ruleOrder() {
        Supplier<RuleCascade> full = () -> withFiveRules("01");
        refused("kind bad, 5 rules", BAD_ARG, full, x -> x.rule(3, 0, 0, 0));
        refused("kind bad, 5 rules", BAD_ARG, full, x -> x.rule(-1, 0, 0, 0));
        for (int bad : outside(3)) {
            refused("kind 0, x bad, 5 rules", BAD_ARG, full, x -> x.rule(0, bad, 0, 0));
            refused("kind 1, x bad, 5 rules", BAD_ARG, full, x -> x.rule(1, bad, 0, 0));
            refused("kind 0, y bad, 5 rules", BAD_ARG, full, x -> x.rule(0, 0, bad, 0));
            refused("kind 2, y bad, 5 rules", BAD_ARG, full, x -> x.rule(2, 0, bad, 0));
            refused("kind 1, y not looked at, 5 rules", FULL, full, x -> x.rule(1, 0, bad, 0));
            refused("kind 2, x not looked at, 5 rules", FULL, full, x -> x.rule(2, bad, 0, 0));
        }
        for (int bad : outside(1023)) {
            refused("kind 0, sides bad, 5 rules", BAD_ARG, full, x -> x.rule(0, 0, 0, bad));
            refused("kind 1, sides bad, 5 rules", BAD_ARG, full, x -> x.rule(1, 0, 0, bad));
            refused("kind 2, sides bad, 5 rules", BAD_ARG, full, x -> x.rule(2, 0, 0, bad));
        }
    }

    private static void pushOrder() {
        for (int bad : outside(3)) {
            refused("push(" + bad + ") on twelve 0", BAD_ARG, () -> withWord("000000000000"),
                    x -> x.push(bad));
            refused("push(" + bad + ") on twelve 3", BAD_ARG, () -> withFirstRules(1, "333333333333"),
                    x -> x.push(bad));
        }
    }

    private static void commuteOrder() {
        for (int bad : outside(5)) {
            refused("no rules, n " + bad, NONE, RuleCascade::new, x -> x.commute(0, bad));
            refused("one rule, n " + bad, NONE, () -> withFirstRules(1, ""), x -> x.commute(0, bad));
            refused("k -1, n " + bad, NONE, () -> withFirstRules(2, ""), x -> x.commute(-1, bad));
            refused("k 4 of 5, n " + bad, NONE, () -> withFiveRules(""), x -> x.commute(4, bad));
            refused("k and n " + bad, NONE, () -> withFiveRules(""), x -> x.commute(bad, bad));
            refused("k 3 of 5, n " + bad, BAD_ARG, () -> withFiveRules(""), x -> x.commute(3, bad));
        }
    }

    private static void idleOrder() {
        for (int bad : outside(5)) {
            refused("no rules, n " + bad, NONE, RuleCascade::new, x -> x.idle(0, bad));
            refused("k -1, n " + bad, NONE, () -> withFirstRules(2, ""), x -> x.idle(-1, bad));
            refused("k 2 of 2, n " + bad, NONE, () -> withFirstRules(2, ""), x -> x.idle(2, bad));
            refused("k and n " + bad, NONE, () -> withFiveRules(""), x -> x.idle(bad, bad));
            refused("k 4 of 5, n " + bad, BAD_ARG, () -> withFiveRules(""), x -> x.idle(4, bad));
        }
    }

    private static void sourceOrder() {
        for (int bad : outside(5)) {
            refused("n " + bad + ", k -1", BAD_ARG, RuleCascade::new, x -> x.source(bad, -1));
            refused("n " + bad + ", k 1024", BAD_ARG, RuleCascade::new, x -> x.source(bad, 1024));
            refused("n and k " + bad, BAD_ARG, () -> withFiveRules("01"), x -> x.source(bad, bad));
            refused("n " + bad + ", no source at all", BAD_ARG, () -> withAllGone("0"),
                    x -> x.source(bad, 0));
        }
    }
}
