/** What has been called on an object before the call that a test looks at. */
enum Past {
    NEW {
        @Override
        void live(MapReduceRun x) {
        }
    },
    /** Records on both sides of the bounds, an output of older settings, and six failures to come. */
    BUSY {
        @Override
        void live(MapReduceRun x) {
            fill(x, 0, 5);
            fill(x, 1, 7);
            x.run(MapReduceRun.CHAIN);
            fill(x, 3, 9);
            x.mapping(5, 3, -2);
            x.bounds(LOW, HIGH);
            x.failures(false, 0, 2);
            x.failures(false, 2, 1);
            x.failures(true, 0, 3);
        }
    },
    /** No split can take one more record. */
    ALL_SPLITS_FULL {
        @Override
        void live(MapReduceRun x) {
            for (int split = 0; split < 4; split++) {
                fill(x, split, 16);
            }
            x.mapping(13, -2, 3);
            x.bounds(LOW, HIGH);
            x.run(MapReduceRun.ADDED);
        }
    },
    /** The same, with six failures to come, some of every map task. */
    ALL_SPLITS_FULL_AND_FAILING {
        @Override
        void live(MapReduceRun x) {
            ALL_SPLITS_FULL.live(x);
            for (int split = 0; split < 4; split++) {
                x.failures(false, split, 1);
            }
            x.failures(true, 0, 2);
        }
    },
    /** The output is empty, mapped() is not 0. */
    GIVEN_UP {
        @Override
        void live(MapReduceRun x) {
            BUSY.live(x);
            x.failures(false, 3, 1);
            x.run(MapReduceRun.ADDED);
            x.failures(true, 0, 2);
        }
    },
    /** The input is the output, with one record more. */
    FED_BACK {
        @Override
        void live(MapReduceRun x) {
            BUSY.live(x);
            x.run(MapReduceRun.LARGEST);
            x.feedBack();
            x.addRecord(3, 77, 4);
            x.failures(false, 1, 3);
        }
    };

    static final int LOW = -10;
    static final int HIGH = 20;

    abstract void live(MapReduceRun x);

    MapReduceRun make(int parts) {
        MapReduceRun x = new MapReduceRun(parts, 3);
        live(x);
        return x;
    }

    private static void fill(MapReduceRun x, int split, int records) {
        for (int i = 0; i < records; i++) {
            x.addRecord(split, 3 * i - 7 * split, LOW - 1 + (i * 7 + split * 5) % (HIGH - LOW + 3));
        }
    }
}
