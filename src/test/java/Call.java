import java.util.function.ToIntFunction;

/** A call that is still to be made: its name, how it is made, and the answer that is due, where a test asks for one. */
record Call(String name, ToIntFunction<CutRepairer> way, boolean judged, int due) {
    static Call of(String method, ToIntFunction<CutRepairer> way, Object... arguments) {
        StringBuilder name = new StringBuilder(method).append('(');
        for (int k = 0; k < arguments.length; k++) {
            name.append(k == 0 ? "" : ", ").append(arguments[k]);
        }
        return new Call(name.append(')').toString(), way, false, 0);
    }

    /** The same call, of which this answer is due. */
    Call is(int answer) {
        return new Call(name, way, true, answer);
    }

    int on(CutRepairer x) {
        return way.applyAsInt(x);
    }
}
