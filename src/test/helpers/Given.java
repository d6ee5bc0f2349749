/** Objects that have been told a stage and perhaps a show or a log, all of number 0. */
final class Given {
    /** Numbers that are asked for where none such is: at both ends of all that there are. */
    static final int[] FAR_OFF = {Integer.MIN_VALUE, Integer.MIN_VALUE + 1, -1000, -11, -10, -3, -2,
        1000, 65536, 1 << 30, Integer.MAX_VALUE - 1, Integer.MAX_VALUE};

    static PlateRunner stage(String stage) {
        return and(new PlateRunner(), 0, stage);
    }

    static PlateRunner show(String stage, String show) {
        return and(stage(stage), 1, show);
    }

    static PlateRunner log(String stage, String log) {
        return and(stage(stage), 2, log);
    }

    static PlateRunner and(PlateRunner x, int sort, String text) {
        int number = Tape.tell(x, sort, x.count(sort) == 0 ? PlateRunner.NONE : 0, text);
        if (number != 0) {
            throw new IllegalStateException(text + " is not told: " + number + ", fault " + x.fault(0) + " at " + x.fault(1));
        }
        return x;
    }
}
