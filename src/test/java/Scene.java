import java.util.ArrayList;
import java.util.List;
import java.util.function.Consumer;
import java.util.function.ToIntFunction;

/** Some calls that make a state, on as many objects as are wanted, and all that is read of it. */
final class Scene {
    /** A call with one of its arguments left open. */
    interface OpenCall {
        int of(FlippedBlinds x, int argument);
    }

    private final Checks checks;
    private final String name;
    private final Consumer<FlippedBlinds> calls;
    private final List<List<Integer>> readings = new ArrayList<>();

    Scene(Checks checks, String name, Consumer<FlippedBlinds> calls) {
        this.checks = checks;
        this.name = name;
        this.calls = calls;
        for (int part = 0; part < Readings.PARTS; part++) {
            readings.add(Readings.of(made(), part));
        }
    }

    FlippedBlinds made() {
        FlippedBlinds x = new FlippedBlinds();
        calls.accept(x);
        return x;
    }

    /** The call is answered so, and nothing that can be read is another than without it. */
    void unchanged(String call, ToIntFunction<FlippedBlinds> answer, int due) {
        checks.due(name + ": " + call, answer.applyAsInt(made()), due);
        for (int part = 0; part < Readings.PARTS; part++) {
            FlippedBlinds x = made();
            answer.applyAsInt(x);
            if (!Readings.of(x, part).equals(readings.get(part))) {
                checks.holds(name + ": " + call + " leaves " + Readings.name(part) + " unchanged", false);
                return;
            }
        }
        checks.holds(name + ": " + call + " leaves all unchanged", true);
    }

    /** Other calls lead to the same, but for what the states of the history are. */
    void ledToBy(String otherName, Consumer<FlippedBlinds> otherCalls) {
        for (int part = 0; part < Readings.PARTS_OF_NOW; part++) {
            FlippedBlinds x = new FlippedBlinds();
            otherCalls.accept(x);
            checks.holds(name + ": " + otherName + " leads to the same " + Readings.name(part),
                Readings.of(x, part).equals(readings.get(part)));
        }
    }

    /** An argument has this least and this greatest value: one beyond each is refused, and all beyond. */
    void range(String call, int least, int greatest, OpenCall open) {
        for (int value : new int[] {least, greatest}) {
            int answer = open.of(made(), value);
            checks.holds(name + ": " + call + " with " + value + " is in the range",
                answer != FlippedBlinds.INVALID_ARGUMENT);
        }
        for (int value : new int[] {Integer.MIN_VALUE, least - 1, greatest + 1, Integer.MAX_VALUE}) {
            unchanged(call + " with " + value, x -> open.of(x, value), FlippedBlinds.INVALID_ARGUMENT);
        }
    }
}
