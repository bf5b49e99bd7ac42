import java.util.function.Function;
import java.util.function.Supplier;

/** Holds answers against one sentence of the document at a time, and tells a wrong one with its place and words. */
final class Edge {
    private final Check check = new Check();
    private String sentence = "";

    /** What follows is what this sentence asks; part is Terms, or the number of a promise. */
    void of(String part, String words) {
        sentence = part + ", \"" + words + "\": ";
    }

    void due(String what, Object due, Object got) {
        check.same(sentence + what, due, got);
    }

    void fault(int what, String bytes, int due) {
        due("fault(" + what + ") of '" + bytes + "'", due, new Tool().fault(what, bytes));
    }

    void matches(String text, String pattern, String due) {
        due("'" + pattern + "' in '" + text + "'", due, new Tool().with(text, pattern, "a").matches());
    }

    void letters(String text, String pattern, String due) {
        due("letters of '" + pattern + "' in '" + text + "'", due, new Tool().with(text, pattern, "a").letters(0));
    }

    void becomes(String text, String pattern, String template, String due) {
        Tool tool = new Tool().with(text, pattern, template);
        due("put(0) of '" + template + "' is done", true, tool.it.put(0) >= 0);
        due("'" + text + "' by '" + pattern + "' and '" + template + "'", due, tool.text());
    }

    /** The call answers what is due, and the object is as another one that was made so and was not called. */
    void refused(String call, Object due, Supplier<Tool> making, Function<Tool, Object> calling) {
        Tool called = making.get();
        due(call, due, calling.apply(called));
        due("what is after " + call, making.get().everything(), called.everything());
    }

    void finish() {
        check.finish();
    }
}
