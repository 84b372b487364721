/** Each promise of the document by itself: ordinary inputs, its edges, and wrong inputs. */
public final class PromisesTest {
    private static final int BAD_ARG = -1;
    private static final int FULL = -2;
    private static final int NONE = -4;
    private static final int MIN = Integer.MIN_VALUE;
    private static final int MAX = Integer.MAX_VALUE;

    private static final int ANY = 31;
    private static final int EDGE = 16;

    private static int wrong = 0;

    private static void due(String what, int got, int want) {
        if (got != want) {
            wrong++;
            System.out.println(what + " answered " + got + ", due is " + want);
        }
    }

    public static void main(String[] args) {
        newObject();
        ruleArguments();
        ruleLimit();
        changing();
        deleting();
        inserting();
        drop();
        swap();
        push();
        clear();
        apply();
        after();
        letter();
        sources();
        source();
        images();
        commute();
        idle();
        still();
        refusedCallsChangeNothing();
        askingChangesNothing();
        System.out.println(wrong == 0 ? "all answers are as due" : wrong + " are not as due");
        if (wrong != 0) {
            System.exit(1);
        }
    }

    private static int sides(int left, int right) {
        return left + 32 * right;
    }

    private static int code(String word) {
        return word.isEmpty() ? 1 : Integer.parseInt("1" + word, 4);
    }

    private static RuleCascade withWord(String word) {
        RuleCascade x = new RuleCascade();
        spell(x, word);
        return x;
    }

    private static void spell(RuleCascade x, String word) {
        x.clear();
        for (int i = 0; i < word.length(); i++) {
            x.push(word.charAt(i) - '0');
        }
    }

    /** One rule alone, seen through what it makes of one word. */
    private static void makes(int kind, int x, int y, int sides, String from, String to) {
        RuleCascade one = withWord(from);
        one.rule(kind, x, y, sides);
        due("rule(" + kind + ", " + x + ", " + y + ", " + sides + ") on '" + from + "'",
                one.after(1), code(to));
    }

    private static void newObject() {
        RuleCascade x = new RuleCascade();
        due("new: after(0)", x.after(0), 1);
        due("new: after(1)", x.after(1), BAD_ARG);
        due("new: letter(0)", x.letter(0), NONE);
        due("new: drop(0)", x.drop(0), NONE);
        due("new: swap(0)", x.swap(0), NONE);
        due("new: sources(0)", x.sources(0), 1);
        due("new: still(3)", x.still(3), 64);
        due("new: images(5)", x.images(5), 1024);
        due("new: apply()", x.apply(), 0);
        due("new: clear()", x.clear(), 0);
        RuleCascade other = new RuleCascade();
        x.push(1);
        x.rule(2, 0, 0, 1023);
        due("another object has its own word and rules", other.letter(0), NONE);
    }

    private static void ruleArguments() {
        int[] outside = {-1, 4, MIN, MAX};
        RuleCascade x = new RuleCascade();
        for (int bad : new int[] {-1, 3, MIN, MAX}) {
            due("rule with kind " + bad, x.rule(bad, 0, 0, 0), BAD_ARG);
        }
        for (int bad : outside) {
            due("kind 0 with x " + bad, x.rule(0, bad, 0, 0), BAD_ARG);
            due("kind 0 with y " + bad, x.rule(0, 0, bad, 0), BAD_ARG);
            due("kind 1 with x " + bad, x.rule(1, bad, 0, 0), BAD_ARG);
            due("kind 2 with y " + bad, x.rule(2, 0, bad, 0), BAD_ARG);
            RuleCascade free = new RuleCascade();
            due("kind 1 takes any y, " + bad, free.rule(1, 0, bad, 1023), 1);
            due("kind 2 takes any x, " + bad, free.rule(2, bad, 0, 1023), 2);
            due("kind 2 with any x does its work", free.letter(0), 0);
        }
        for (int bad : new int[] {-1, 1024, MIN, MAX}) {
            for (int kind = 0; kind < 3; kind++) {
                due("kind " + kind + " with sides " + bad, x.rule(kind, 0, 0, bad), BAD_ARG);
            }
        }
        due("least arguments", x.rule(0, 0, 0, 0), 1);
        due("greatest arguments", x.rule(2, 3, 3, 1023), 2);
        due("kind 1", x.rule(1, 3, 3, 1023), 3);
    }

    private static void ruleLimit() {
        RuleCascade x = new RuleCascade();
        for (int i = 1; i <= 5; i++) {
            due("rule " + i, x.rule(0, 0, 1, 1023), i);
        }
        due("a sixth rule", x.rule(0, 0, 1, 1023), FULL);
        due("a sixth rule, kind bad", x.rule(3, 0, 1, 1023), BAD_ARG);
        due("a sixth rule, x bad", x.rule(0, 4, 1, 1023), BAD_ARG);
        due("a sixth rule, y bad", x.rule(0, 0, 4, 1023), BAD_ARG);
        due("a sixth rule, sides bad", x.rule(0, 0, 1, 1024), BAD_ARG);
        due("there are still 5", x.drop(4), 4);
        due("room again", x.rule(1, 0, 0, 0), 5);
    }

    private static void changing() {
        makes(0, 0, 3, sides(ANY, ANY), "0120", "3123");
        makes(0, 0, 3, sides(EDGE, ANY), "000", "300");
        makes(0, 0, 3, sides(ANY, EDGE), "000", "003");
        makes(0, 0, 3, sides(EDGE, EDGE), "0", "3");
        makes(0, 0, 3, sides(EDGE, EDGE), "00", "00");
        makes(0, 0, 3, sides(ANY, ANY), "", "");
        makes(0, 0, 3, 0, "000", "000");
        makes(0, 2, 2, 1023, "2121", "2121");
        // at all places at the same time: a new 1 is no neighbour yet
        makes(0, 0, 1, sides(1 << 1, ANY), "1000", "1100");
        makes(0, 0, 1, sides(ANY, 1 << 1), "0001", "0011");
        makes(0, 1, 0, sides(1 << 1, 1 << 1), "11111", "10001");
        for (int s = 0; s < 4; s++) {
            makes(0, 1, 2, sides(1 << s, ANY), s + "10", s + "20");
            makes(0, 1, 2, sides(31 - (1 << s), EDGE), s + "1", s + "1");
            makes(0, 1, 2, sides(EDGE, 1 << s), "1" + s, "2" + s);
            makes(0, 1, 2, sides(EDGE, 31 - (1 << s)), "1" + s, "1" + s);
        }
        makes(0, 3, 0, 1023, "333333333333", "000000000000");
    }

    private static void deleting() {
        makes(1, 0, 9, sides(ANY, ANY), "0120", "12");
        makes(1, 0, 0, sides(ANY, ANY), "0000", "");
        makes(1, 0, 0, sides(ANY, ANY), "", "");
        makes(1, 0, 0, sides(EDGE, ANY), "0001", "001");
        makes(1, 0, 0, sides(ANY, EDGE), "1000", "100");
        makes(1, 0, 0, 0, "0000", "0000");
        // by the word as it was: what goes is a neighbour still
        makes(1, 0, 0, sides(1 << 0, ANY), "0000", "0");
        makes(1, 0, 0, sides(1 << 1, ANY), "1000", "100");
        makes(1, 2, 0, sides(1 << 1, 1 << 3), "123123", "1313");
        makes(1, 2, 0, sides(1 << 1, 1 << 3), "121323", "121323");
    }

    private static void inserting() {
        makes(2, 9, 3, 1023, "", "3");
        makes(2, 9, 3, sides(EDGE, EDGE), "", "3");
        makes(2, 9, 3, sides(15, ANY), "", "");
        makes(2, 9, 3, sides(ANY, 15), "", "");
        makes(2, 9, 3, sides(EDGE, EDGE), "0", "0");
        makes(2, 9, 3, 1023, "012", "3031323");
        makes(2, 9, 3, sides(EDGE, ANY), "012", "3012");
        makes(2, 9, 3, sides(ANY, EDGE), "012", "0123");
        makes(2, 9, 3, sides(15, 15), "012", "03132");
        makes(2, 9, 3, sides(1 << 0, 1 << 1), "010110", "03103110");
        makes(2, 9, 3, 0, "012", "012");
        // what comes in is no neighbour yet
        makes(2, 9, 1, sides(1 << 1, 1 << 1), "111", "11111");
        // only the first 12 stay
        makes(2, 9, 3, 1023, "01201", "30313230313");
        makes(2, 9, 3, 1023, "012012", "303132303132");
        makes(2, 9, 3, sides(EDGE, ANY), "012301230123", "301230123012");
        makes(2, 9, 3, sides(ANY, EDGE), "012301230123", "012301230123");
        makes(2, 9, 3, sides(ANY, EDGE), "01230123012", "012301230123");
        makes(2, 9, 3, 1023, "000000000000", "303030303030");
        makes(2, 9, 0, 1023, "000000000000", "000000000000");
        makes(2, 9, 3, sides(ANY, EDGE), "000000000000", "000000000000");
        // they are cut after each rule, not once at the end
        RuleCascade x = withWord("012301230122");
        x.rule(2, 0, 3, sides(EDGE, ANY));
        x.rule(1, 3, 0, sides(EDGE, ANY));
        due("cut after the first of two rules", x.after(2), code("01230123012"));
    }

    private static void drop() {
        RuleCascade x = new RuleCascade();
        x.rule(2, 0, 0, sides(ANY, EDGE));
        x.rule(2, 0, 1, sides(ANY, EDGE));
        x.rule(2, 0, 2, sides(ANY, EDGE));
        x.rule(0, 2, 3, 1023);
        x.rule(1, 0, 0, 1023);
        due("all five", x.after(5), code("13"));
        for (int bad : new int[] {-1, 5, MIN, MAX}) {
            due("drop(" + bad + ")", x.drop(bad), NONE);
        }
        due("drop(4), the last", x.drop(4), 4);
        due("four are left", x.after(4), code("013"));
        due("drop(4) again", x.drop(4), NONE);
        due("drop(1), in the middle", x.drop(1), 3);
        due("three are left", x.after(3), code("03"));
        due("drop(0), the first", x.drop(0), 2);
        due("two are left", x.after(2), code("3"));
        due("drop(0)", x.drop(0), 1);
        due("drop(0)", x.drop(0), 0);
        due("drop(0) of none", x.drop(0), NONE);
        due("rules can come again", x.rule(2, 0, 1, 1023), 1);
        due("and do their work", x.after(1), code("1"));
    }

    private static void swap() {
        RuleCascade x = new RuleCascade();
        due("swap(0) of none", x.swap(0), NONE);
        x.rule(2, 0, 2, sides(ANY, EDGE));
        due("swap(0) of one", x.swap(0), NONE);
        x.rule(0, 2, 1, sides(ANY, EDGE));
        x.rule(1, 1, 0, sides(EDGE, ANY));
        due("before", x.after(3), code(""));
        for (int bad : new int[] {-1, 2, 3, MIN, MAX, MAX - 1}) {
            due("swap(" + bad + ")", x.swap(bad), NONE);
        }
        due("swap(1)", x.swap(1), 0);
        due("delete before change", x.after(3), code("1"));
        due("swap(0)", x.swap(0), 0);
        due("delete first: after(1)", x.after(1), code(""));
        due("insert second: after(2)", x.after(2), code("2"));
        due("change third: after(3)", x.after(3), code("1"));
        due("swap(0) back", x.swap(0), 0);
        due("insert first: after(1)", x.after(1), code("2"));
    }

    private static void push() {
        RuleCascade x = new RuleCascade();
        for (int bad : new int[] {-1, 4, MIN, MAX}) {
            due("push(" + bad + ")", x.push(bad), BAD_ARG);
        }
        for (int i = 1; i <= 12; i++) {
            due("push number " + i, x.push(i % 4), i);
        }
        due("the twelve", x.after(0), code("123012301230"));
        due("push number 13", x.push(1), FULL);
        due("push(4) on a full word", x.push(4), BAD_ARG);
        due("push(-1) on a full word", x.push(-1), BAD_ARG);
        due("still the twelve", x.after(0), code("123012301230"));
        due("letters 0 at the front count", withWord("00").push(0), 3);
        due("push on twelve letters 0", withWord("000000000000").push(0), FULL);
        due("greatest code", withWord("333333333333").after(0), 33554431);
        due("least code of twelve", withWord("000000000000").after(0), 16777216);
    }

    private static void clear() {
        RuleCascade x = withWord("0000");
        x.rule(2, 0, 1, sides(EDGE, EDGE));
        due("clear()", x.clear(), 4);
        due("the word is empty", x.after(0), 1);
        due("the rules stay", x.after(1), code("1"));
        due("clear() again", x.clear(), 0);
        due("push after clear", x.push(2), 1);
        due("clear() of twelve", withWord("333333333333").clear(), 12);
    }

    private static void apply() {
        RuleCascade x = withWord("12");
        due("apply() without rules", x.apply(), 2);
        due("the word itself", x.after(0), code("12"));
        x.rule(2, 0, 0, 1023);
        x.rule(0, 1, 3, 1023);
        due("apply()", x.apply(), 5);
        due("the word is its result", x.after(0), code("03020"));
        due("apply() again", x.apply(), 11);
        due("apply() up to the limit", x.apply(), 12);
        due("the first 12", x.after(0), code("000000030000"));
        due("apply() at the limit", x.apply(), 12);
        x.drop(0);
        x.drop(0);
        x.rule(1, 0, 0, 1023);
        due("apply() that deletes all", x.apply(), 0);
        due("and leaves the empty word", x.after(0), 1);
    }

    private static void after() {
        RuleCascade x = withWord("01");
        x.rule(0, 0, 2, 1023);
        x.rule(2, 0, 3, sides(1 << 2, 1 << 1));
        x.rule(1, 1, 0, sides(1 << 3, EDGE));
        due("after(0)", x.after(0), code("01"));
        due("after(1)", x.after(1), code("21"));
        due("after(2)", x.after(2), code("231"));
        due("after(3)", x.after(3), code("23"));
        for (int bad : new int[] {-1, 4, MIN, MAX}) {
            due("after(" + bad + ")", x.after(bad), BAD_ARG);
        }
        for (int i = 0; i < 2; i++) {
            x.rule(0, 3, 0, 1023);
        }
        due("after(5)", x.after(5), code("20"));
        due("after(6)", x.after(6), BAD_ARG);
    }

    private static void letter() {
        RuleCascade x = withWord("0123");
        for (int i = 0; i < 4; i++) {
            due("letter(" + i + ") without rules", x.letter(i), i);
        }
        for (int bad : new int[] {-1, 4, 12, 13, MIN, MAX}) {
            due("letter(" + bad + ")", x.letter(bad), NONE);
        }
        x.rule(1, 0, 0, 1023);
        due("of the result, not of the word", x.letter(0), 1);
        due("last of the result", x.letter(2), 3);
        due("behind the result", x.letter(3), NONE);
        RuleCascade full = withWord("000000000003");
        due("letter(11) of twelve", full.letter(11), 3);
        due("letter(12) of twelve", full.letter(12), NONE);
    }

    private static void sources() {
        RuleCascade x = withWord("11");
        for (int bad : new int[] {-1, 6, MIN, MAX}) {
            due("sources(" + bad + ")", x.sources(bad), BAD_ARG);
        }
        due("without rules, other length", x.sources(1), 0);
        due("without rules, same length", x.sources(2), 1);
        x.rule(0, 0, 1, 1023);
        due("0 and 1 both give 1", x.sources(2), 4);
        x.rule(1, 2, 0, 1023);
        due("and 2 goes: sources(3)", x.sources(3), 12);
        due("sources(5)", x.sources(5), 40);
        due("sources(0)", x.sources(0), 0);
        spell(x, "");
        due("of the empty word: sources(0)", x.sources(0), 1);
        due("of the empty word: sources(5)", x.sources(5), 1);
        spell(x, "0");
        due("of a word that is no result", x.sources(1), 0);
        RuleCascade none = withWord("000000000002");
        none.rule(0, 0, 0, 0);
        due("of a longer word with idle rules", none.sources(0), 0);
        due("of a longer word with idle rules", none.source(0, 0), NONE);
    }

    private static void source() {
        RuleCascade x = withWord("11");
        x.rule(0, 0, 1, 1023);
        String[] sources = {"00", "01", "10", "11"};
        for (int k = 0; k < 4; k++) {
            due("source(2, " + k + ")", x.source(2, k), code(sources[k]));
        }
        for (int bad : new int[] {-1, 4, MIN, MAX}) {
            due("source(2, " + bad + ")", x.source(2, bad), NONE);
            due("source(1, " + bad + ")", x.source(1, bad), NONE);
        }
        for (int bad : new int[] {-1, 6, MIN, MAX}) {
            due("source(" + bad + ", 0)", x.source(bad, 0), BAD_ARG);
            due("BAD_ARG before NONE, n " + bad, x.source(bad, -1), BAD_ARG);
            due("BAD_ARG before NONE, n " + bad, x.source(bad, MAX), BAD_ARG);
        }
        spell(x, "");
        due("source(0, 0) of the empty word", x.source(0, 0), 1);
        due("source(0, 1) of the empty word", x.source(0, 1), NONE);
        spell(x, "33333");
        due("source(5, 0), the last of all", x.source(5, 0), code("33333"));
        x.rule(1, 0, 0, 0);
        x.rule(0, 2, 3, 1023);
        due("source(5, 31)", x.source(5, 31), code("33333"));
        due("source(5, 32)", x.source(5, 32), NONE);
    }

    private static void images() {
        RuleCascade x = new RuleCascade();
        int[] all = {1, 4, 16, 64, 256, 1024};
        for (int n = 0; n <= 5; n++) {
            due("images(" + n + ") without rules", x.images(n), all[n]);
        }
        for (int bad : new int[] {-1, 6, MIN, MAX}) {
            due("images(" + bad + ")", x.images(bad), BAD_ARG);
        }
        x.rule(0, 0, 1, 1023);
        due("images(5) with three letters", x.images(5), 243);
        x.rule(1, 1, 0, 1023);
        due("images(5) of words of two letters, 0 to 5 of them", x.images(5), 63);
        due("images(0)", x.images(0), 1);
        x.rule(1, 2, 0, 1023);
        x.rule(1, 3, 0, 1023);
        due("images(5) where all goes", x.images(5), 1);
    }

    private static void commute() {
        RuleCascade x = new RuleCascade();
        due("no rules", x.commute(0, 1), NONE);
        x.rule(0, 0, 1, 1023);
        due("one rule", x.commute(0, 1), NONE);
        x.rule(0, 1, 2, 1023);
        x.rule(1, 3, 0, 1023);
        due("0 to 1 and 1 to 2", x.commute(0, 1), 0);
        due("on the empty word", x.commute(0, 0), 1);
        due("1 to 2 and 3 goes", x.commute(1, 5), 1);
        for (int bad : new int[] {-1, 2, 3, MIN, MAX, MAX - 1}) {
            due("commute(" + bad + ", 1)", x.commute(bad, 1), NONE);
            due("NONE before BAD_ARG, k " + bad, x.commute(bad, 6), NONE);
        }
        for (int bad : new int[] {-1, 6, MIN, MAX}) {
            due("commute(0, " + bad + ")", x.commute(0, bad), BAD_ARG);
        }
        x.rule(0, 2, 1, 1023);
        due("a later rule may hide what differs", x.commute(0, 5), 1);
        RuleCascade late = new RuleCascade();
        late.rule(0, 3, 2, sides(1 << 3, EDGE));
        late.rule(0, 3, 1, sides(1 << 3, EDGE));
        due("only longer words tell", late.commute(0, 1), 1);
        due("only longer words tell", late.commute(0, 2), 0);
    }

    private static void idle() {
        RuleCascade x = new RuleCascade();
        due("no rules", x.idle(0, 1), NONE);
        x.rule(0, 3, 3, 1023);
        x.rule(0, 3, 0, sides(1 << 3, EDGE));
        x.rule(1, 2, 0, 0);
        due("3 becomes 3", x.idle(0, 5), 1);
        due("needs two letters", x.idle(1, 1), 1);
        due("needs two letters", x.idle(1, 2), 0);
        due("never fits", x.idle(2, 5), 1);
        for (int bad : new int[] {-1, 3, 5, MIN, MAX}) {
            due("idle(" + bad + ", 1)", x.idle(bad, 1), NONE);
            due("NONE before BAD_ARG, k " + bad, x.idle(bad, -1), NONE);
        }
        for (int bad : new int[] {-1, 6, MIN, MAX}) {
            due("idle(0, " + bad + ")", x.idle(0, bad), BAD_ARG);
        }
        RuleCascade undone = new RuleCascade();
        undone.rule(2, 0, 0, 1023);
        undone.rule(1, 0, 0, 1023);
        due("what comes in goes again", undone.idle(0, 5), 1);
        due("the one that deletes is not idle", undone.idle(1, 0), 0);
    }

    private static void still() {
        RuleCascade x = new RuleCascade();
        int[] all = {1, 4, 16, 64, 256, 1024};
        for (int n = 0; n <= 5; n++) {
            due("still(" + n + ") without rules", x.still(n), all[n]);
        }
        for (int bad : new int[] {-1, 6, MIN, MAX}) {
            due("still(" + bad + ")", x.still(bad), BAD_ARG);
        }
        x.rule(0, 0, 1, 1023);
        due("words without 0", x.still(5), 243);
        x.rule(0, 1, 0, 1023);
        due("0 by way of 1 is 0, but 1 is too", x.still(5), 243);
        due("still(1)", x.still(1), 3);
        x.rule(2, 0, 2, sides(EDGE, EDGE));
        due("the empty word is not still", x.still(0), 0);
        due("the others are as before", x.still(1), 3);
    }

    private static void refusedCallsChangeNothing() {
        RuleCascade x = withWord("012301230123");
        for (int i = 0; i < 5; i++) {
            x.rule(0, i % 4, (i + 1) % 4, sides(ANY, i + 10));
        }
        int[] before = picture(x);
        x.rule(3, 0, 0, 0);
        x.rule(0, 0, 0, 0);
        x.drop(5);
        x.drop(-1);
        x.swap(4);
        x.swap(-1);
        x.push(4);
        x.push(0);
        x.after(6);
        x.letter(12);
        x.sources(6);
        x.source(6, 0);
        x.source(2, 99);
        x.images(6);
        x.commute(4, 0);
        x.commute(0, 6);
        x.idle(5, 0);
        x.idle(0, 6);
        x.still(6);
        samePicture("refused calls", before, picture(x));
    }

    private static void askingChangesNothing() {
        RuleCascade x = withWord("0123");
        x.rule(2, 0, 1, 1023);
        x.rule(1, 1, 0, sides(ANY, 1));
        x.rule(0, 2, 3, 1023);
        int[] before = picture(x);
        x.after(2);
        x.letter(1);
        x.sources(3);
        x.source(3, 0);
        x.images(3);
        x.commute(0, 3);
        x.commute(1, 3);
        x.idle(0, 3);
        x.idle(2, 3);
        x.still(3);
        samePicture("asking", before, picture(x));
    }

    /** What can be seen of the word and the rules without changing them. */
    private static int[] picture(RuleCascade x) {
        int[] seen = new int[16];
        for (int k = 0; k <= 6; k++) {
            seen[k] = x.after(k);
        }
        for (int k = 0; k < 4; k++) {
            seen[7 + k] = x.commute(k, 3);
        }
        for (int k = 0; k < 5; k++) {
            seen[11 + k] = x.idle(k, 3);
        }
        return seen;
    }

    private static void samePicture(String what, int[] before, int[] now) {
        for (int i = 0; i < before.length; i++) {
            due(what + ", seen " + i, now[i], before[i]);
        }
    }
}
