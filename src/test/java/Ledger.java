import java.util.IdentityHashMap;
import java.util.List;
import java.util.Map;
import java.util.NoSuchElementException;

/**
 * Counts what is wrong of one test. Each check begins with a new object and a story of calls on it, so that an
 * object stays far below its 512 calls, and so that the same object can be had once with a call and once without.
 */
final class Ledger {
    static final Class<?> NO_SUCH = NoSuchElementException.class;
    static final Class<?> ARGUMENT = IllegalArgumentException.class;
    static final Class<?> STATE = IllegalStateException.class;
    static final Class<?> INDEX = IndexOutOfBoundsException.class;

    /** Calls that bring a new object to where a check begins. */
    interface Story {
        void on(OneHand x);

        default Story then(Story next) {
            return x -> {
                on(x);
                next.on(x);
            };
        }
    }

    /** One call, with what it answers. */
    interface Call {
        Object on(OneHand x);
    }

    /** A call that answers nothing. */
    static Call does(Story call) {
        return x -> {
            call.on(x);
            return "nothing";
        };
    }

    private final Map<Story, List<String>> later = new IdentityHashMap<>();
    private String promise = "";
    private int checks = 0;
    private int wrong = 0;

    void promise(String name) {
        promise = name;
    }

    static OneHand made(Story story) {
        OneHand x = new OneHand();
        story.on(x);
        return x;
    }

    /** What a call answers, as a text; of what it throws the name. */
    static String answer(OneHand x, Call call) {
        try {
            return String.valueOf(call.on(x));
        } catch (RuntimeException e) {
            return e.getClass().getSimpleName();
        }
    }

    private void same(String sentence, Object is, Object want) {
        checks++;
        if (!is.equals(want)) {
            wrong++;
            System.out.println("promise " + promise + ": " + sentence + ": " + is + ", due is " + want);
        }
    }

    void due(String sentence, OneHand x, Call call, Object want) {
        same(sentence, answer(x, call), String.valueOf(want));
    }

    void due(String sentence, Story story, Call call, Object want) {
        due(sentence, made(story), call, want);
    }

    /** The call throws just this, however often it is made, and later calls tell what they told ahead of it. */
    void refused(String sentence, Story story, Call call, Class<?> by) {
        OneHand x = made(story);
        due(sentence, x, call, by.getSimpleName());
        due(sentence + ", again", x, call, by.getSimpleName());
        unchanged(sentence, story, call);
    }

    /** The call answers so, and later calls tell what they told ahead of it. */
    void idle(String sentence, Story story, Call call, Object want) {
        due(sentence, story, call, want);
        unchanged(sentence, story, call);
    }

    void unchanged(String sentence, Story story, Call call) {
        List<String> ahead = later.computeIfAbsent(story, Later::told);
        List<String> behind = Later.told(story.then(x -> answer(x, call)));
        same(sentence + ": as many things are told", behind.size(), ahead.size());
        for (int k = 0; k < ahead.size() && k < behind.size(); k++) {
            if (!ahead.get(k).equals(behind.get(k))) {
                same(sentence + ": what is told later", behind.get(k), ahead.get(k));
                return;
            }
        }
        same(sentence + ": what is told later", "alike", "alike");
    }

    /** The two stories leave objects of which later calls tell the same (or don't). */
    void alike(String sentence, Story one, Story other, boolean want) {
        same(sentence, Later.told(one).equals(Later.told(other)), want);
    }

    void end() {
        System.out.println(checks + " checks, " + wrong + " wrong");
        if (wrong > 0 || checks == 0) {
            System.exit(1);
        }
    }
}
