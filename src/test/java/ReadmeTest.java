/** The example of README.md answers what stands beside its calls there. */
public final class ReadmeTest {
    private static int wrong = 0;

    private static void due(String call, int got, int want) {
        if (got != want) {
            wrong++;
            System.out.println(call + " answered " + got + ", due is " + want);
        }
    }

    public static void main(String[] args) {
        RuleCascade cascade = new RuleCascade();
        due("rule(0, 1, 2, 31 + 32 * 31)", cascade.rule(0, 1, 2, 31 + 32 * 31), 1);
        due("rule(1, 0, 0, 31 + 32 * 16)", cascade.rule(1, 0, 0, 31 + 32 * 16), 2);
        due("push(1)", cascade.push(1), 1);
        due("push(0)", cascade.push(0), 2);
        due("after(0)", cascade.after(0), 20);
        due("after(1)", cascade.after(1), 24);
        due("after(2)", cascade.after(2), 6);
        due("letter(0)", cascade.letter(0), 2);
        due("letter(1)", cascade.letter(1), RuleCascade.NONE);
        due("apply()", cascade.apply(), 1);
        due("sources(2)", cascade.sources(2), 2);
        due("source(2, 1)", cascade.source(2, 1), 24);
        due("images(1)", cascade.images(1), 3);
        due("still(1)", cascade.still(1), 2);
        due("commute(0, 2)", cascade.commute(0, 2), 1);
        due("idle(1, 2)", cascade.idle(1, 2), 0);
        due("rule(2, 0, 3, 4 + 32 * 16)", cascade.rule(2, 0, 3, 4 + 32 * 16), 3);
        due("after(3)", cascade.after(3), 27);
        due("swap(1)", cascade.swap(1), 0);
        due("drop(0)", cascade.drop(0), 2);
        due("clear()", cascade.clear(), 1);
        due("push(4)", cascade.push(4), RuleCascade.BAD_ARG);
        System.out.println(wrong == 0 ? "the example is as due" : wrong + " are not as due");
        if (wrong != 0) {
            System.exit(1);
        }
    }
}
