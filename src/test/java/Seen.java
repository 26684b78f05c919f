import java.util.LinkedHashMap;
import java.util.Map;
import java.util.function.Consumer;
import java.util.function.Supplier;

/**
 * All that an object tells, each call with its answer. An object is used for at most 512 calls, so
 * each part is asked of another object that was made in the same way; the making may take 200 calls.
 */
final class Seen {
    private final Map<String, Integer> answers = new LinkedHashMap<>();
    private String when = "";

    /** What was linked, and all else that the five calls from listed to size tell. */
    static Map<String, Integer> linked(Supplier<LinkYard> made) {
        Seen seen = new Seen();
        seen.askLink(made.get());
        seen.askWords(made.get());
        return seen.answers;
    }

    /** What was run. */
    static Map<String, Integer> run(Supplier<LinkYard> made) {
        Seen seen = new Seen();
        seen.askState(made.get());
        seen.askMemory(made.get());
        return seen.answers;
    }

    /** Everything, also what the modules, roles and layout are: the next link and run tell that. */
    static Map<String, Integer> all(Supplier<LinkYard> made) {
        Seen seen = new Seen();
        seen.answers.putAll(linked(made));
        seen.answers.putAll(run(made));
        seen.when = "then link(), ";
        seen.askLink(seen.linkedAnew(made));
        seen.askWords(seen.linkedAnew(made));
        seen.when = "then link(), run(), ";
        LinkYard ran = seen.linkedAnew(made);
        seen.tell("answer", ran.run());
        seen.askState(ran);
        seen.when = "then ";
        LinkYard cleared = made.get();
        for (int module = 0; module < 6; module++) {
            seen.tell("clear(" + module + ")", cleared.clear(module));
        }
        return seen.answers;
    }

    /** Says of each answer that is another one than the one that is due. */
    static void same(Check check, String what, Map<String, Integer> got, Map<String, Integer> want) {
        check.due(what + ": answers", got.size(), want.size());
        for (Map.Entry<String, Integer> one : want.entrySet()) {
            check.due(what + ": " + one.getKey(), got.getOrDefault(one.getKey(), Integer.MIN_VALUE), one.getValue());
        }
    }

    /** A call must change nothing: an object that was used for it tells the same as one that wasn't. */
    static void unchanged(Check check, String what, Supplier<LinkYard> made, Consumer<LinkYard> call) {
        Supplier<LinkYard> used = () -> {
            LinkYard yard = made.get();
            call.accept(yard);
            return yard;
        };
        same(check, "after " + what, all(used), all(made));
    }

    private void tell(String call, int answer) {
        answers.put(when + call, answer);
    }

    private LinkYard linkedAnew(Supplier<LinkYard> made) {
        LinkYard yard = made.get();
        tell("link()", yard.link());
        return yard;
    }

    private void askLink(LinkYard yard) {
        tell("culprit()", yard.culprit());
        for (int k = -1; k <= 6; k++) {
            tell("listed(" + k + ")", yard.listed(k));
            tell("size(" + k + ")", yard.size(k));
        }
        for (int symbol = -1; symbol <= 16; symbol++) {
            tell("address(" + symbol + ")", yard.address(symbol));
        }
        for (int module = 0; module < 6; module++) {
            for (int k = 0; k <= 24; k++) {
                tell("where(" + module + ", " + k + ")", yard.where(module, k));
            }
        }
    }

    private void askWords(LinkYard yard) {
        for (int at = -1; at <= 256; at++) {
            tell("word(" + at + ")", yard.word(at));
        }
    }

    private void askState(LinkYard yard) {
        for (int what = -1; what <= 52; what++) {
            tell("state(" + what + ")", yard.state(what));
        }
    }

    private void askMemory(LinkYard yard) {
        for (int at = -1; at <= 256; at++) {
            tell("memory(" + at + ")", yard.memory(at));
        }
    }
}
