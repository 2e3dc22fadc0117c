import java.util.function.Supplier;

/** Looks at one number of a call: that it is taken at its bounds, and refused beside them. */
final class Bounds {
    interface Ask {
        long of(FurnitureCure x, int number);
    }

    private final Check check;
    private final Supplier<FurnitureCure> house;
    private final String untouched;

    /** The house is made anew for each look, so that no look depends on another one. */
    Bounds(Check check, Supplier<FurnitureCure> house) {
        this.check = check;
        this.house = house;
        this.untouched = Houses.seenThrough(house.get());
    }

    void taken(String call, Ask ask, int number, long due) {
        check.due(call + " with n = " + number, due, ask.of(house.get(), number));
    }

    /** Whatever is not from least to most is refused, and changes nothing. */
    void refusedBeside(String call, Ask ask, int least, int most, long refusal) {
        // Far ones too: some come to the least one again if they are shifted by, or cut to fewer bits.
        int[] beside = {least - 1, most + 1, Integer.MIN_VALUE, Integer.MAX_VALUE, least - 32, least + 32,
            least + 64, least + 256, least - 256, least + 65536, Integer.MIN_VALUE + least, Integer.MIN_VALUE + most};
        for (int number : beside) {
            if (number < least || number > most) {
                refused(call + " with n = " + number, ask, number, refusal);
            }
        }
    }

    void refused(String call, Ask ask, int number, long refusal) {
        FurnitureCure x = house.get();
        check.due(call, refusal, ask.of(x, number));
        check.holds(call + " changes nothing", untouched.equals(Houses.seenThrough(x)));
    }
}
