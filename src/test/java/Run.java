import java.util.ArrayList;
import java.util.List;

/** A list of calls that can be made anew on any object; its length is known, as an object is good for 512 calls. */
final class Run {
    interface Call {
        long on(PloughField x);
    }

    interface Ask {
        boolean on(PloughField x);
    }

    private final List<Call> calls = new ArrayList<>();

    /** A call that answers a number. */
    Run does(Call call) {
        calls.add(call);
        return this;
    }

    /** A call that answers true or false. */
    Run asks(Ask ask) {
        calls.add(x -> ask.on(x) ? 1L : 0L);
        return this;
    }

    /** A text fed to the tape, twenty bytes a call, filled up with blanks. */
    Run feeds(String text) {
        for (int from = 0; from < text.length(); from += 20) {
            String twenty = text.substring(from, Math.min(text.length(), from + 20));
            calls.add(x -> Check.feedTwenty(x, twenty));
        }
        return this;
    }

    Run rules(String text) {
        feeds(text);
        return does(x -> x.rules(text.length()));
    }

    Run adds(Run other) {
        calls.addAll(other.calls);
        return this;
    }

    int size() {
        return calls.size();
    }

    Call at(int i) {
        return calls.get(i);
    }

    PloughField make() {
        PloughField x = new PloughField();
        playOn(x);
        return x;
    }

    long[] playOn(PloughField x) {
        long[] answers = new long[calls.size()];
        for (int i = 0; i < answers.length; i++) {
            answers[i] = calls.get(i).on(x);
        }
        return answers;
    }
}
