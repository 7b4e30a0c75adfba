import java.util.Arrays;

/**
 * A call tried on both sides of the bounds of its arguments. What is taken is tried on an object made
 * anew; what is refused must answer as told and change nothing.
 */
final class Bound {
    interface Make {
        DayBoy make();
    }

    interface Call {
        int answer(DayBoy x, int[] given);
    }

    private final String name;
    private final int refused;
    private final Make make;
    private final Call call;
    private final int[] usual;
    private DayBoy stays;
    private String state;

    Bound(String name, int refused, Make make, Call call, int... usual) {
        this.name = name;
        this.refused = refused;
        this.make = make;
        this.call = call;
        this.usual = usual;
    }

    private int[] with(int which, int value) {
        int[] given = usual.clone();
        given[which] = value;
        return given;
    }

    private String told(int[] given) {
        return name + Arrays.toString(given).replace('[', '(').replace(']', ')');
    }

    /** The usual arguments with this one as it is told. */
    Bound takes(int which, int value, int due) {
        int[] given = with(which, value);
        Due.is(told(given), call.answer(make.make(), given), due);
        return this;
    }

    /** An object is good for 512 calls: each row of refused values has its own. */
    Bound refuses(int which, int... values) {
        stays = null;
        for (int value : values) {
            refusesAll(with(which, value));
        }
        return this;
    }

    Bound refusesAll(int... given) {
        if (stays == null) {
            stays = make.make();
            state = State.of(stays);
        }
        Due.is(told(given) + ", refused", call.answer(stays, given), refused);
        Due.holds(told(given) + " changes nothing", state.equals(State.of(stays)));
        return this;
    }

    /** From the least on to the most it is taken, and nothing else is. */
    Bound from(int which, int least, int dueAtLeast, int most, int dueAtMost) {
        takes(which, least, dueAtLeast);
        takes(which, most, dueAtMost);
        return refuses(which, least - 1, most + 1, Integer.MIN_VALUE, Integer.MAX_VALUE);
    }
}
