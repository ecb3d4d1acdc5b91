import java.util.ArrayList;
import java.util.List;

/** Compares answers with those that are due; an exception's answer is the simple name of its very class. */
final class Check {
    interface Call {
        Object answer();
    }

    interface StoreCall {
        Object on(Store x);
    }

    static final String BOUNDS = "IndexOutOfBoundsException";
    static final String ARGUMENT = "IllegalArgumentException";
    static final String STATE = "IllegalStateException";

    private final String name;
    private final List<String> wrong = new ArrayList<>();
    private int compared;

    Check(String name) {
        this.name = name;
    }

    static String answerOf(Call call) {
        try {
            return String.valueOf(call.answer());
        } catch (RuntimeException thrown) {
            return thrown.getClass().getSimpleName();
        }
    }

    void is(String what, Call call, Object due) {
        compared++;
        String got = answerOf(call);
        if (!got.equals(String.valueOf(due))) {
            wrong.add(what + " answered " + got + ", due is " + due);
        }
    }

    /** The call answers so, with the name of an exception if it throws one, and changes nothing. */
    void refuses(String what, Store store, StoreCall call, Object due) {
        String before = Snapshot.of(store);
        is(what, () -> call.on(store), due);
        is(what + ": the state after it", () -> Snapshot.of(store), before);
    }

    void end() {
        for (String line : wrong) {
            System.out.println(name + ": " + line);
        }
        System.out.println(name + ": " + compared + " compared, " + wrong.size() + " wrong");
        if (!wrong.isEmpty()) {
            System.exit(1);
        }
    }
}
