import java.util.Arrays;

/** One call of HailPads: a method's name and its numbers. */
record Call(String name, int... numbers) {
    int on(HailPads pads) {
        return Calls.answer(pads, name, numbers);
    }

    /** The same call with another number at one place. */
    Call with(int which, int number) {
        int[] others = numbers.clone();
        others[which] = number;
        return new Call(name, others);
    }

    @Override
    public String toString() {
        return name + Arrays.toString(numbers);
    }
}
