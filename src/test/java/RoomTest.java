import java.lang.management.ManagementFactory;
import java.util.NoSuchElementException;
import java.util.Random;

/** No call throws but rule(), whatever the arguments; and what a whole run makes stays small. */
public final class RoomTest {
    private static final int CALLS = 512;
    /** 7.3 million elements are the room; a run must stay far below, counted in bytes. */
    private static final long BYTES_MOST = 2000000;
    private static final int[] ODD = {Integer.MIN_VALUE, Integer.MAX_VALUE, -1, 0, 1, -2, 99, 100, 105, 106, 199, 200,
        999, 1 << 30, -100, -2147483548, 31, 32, 240, 241};

    private final Random random;
    private final MinimalTables x = new MinimalTables();

    private RoomTest(long seed) {
        random = new Random(seed);
    }

    private int any() {
        return random.nextInt(4) == 0 ? ODD[random.nextInt(ODD.length)] : random.nextInt(8);
    }

    private void tell(String text, int sort) {
        Grammars.feed(x, text);
        x.text(sort);
    }

    private void call(int what) {
        boolean flag = random.nextBoolean();
        switch (what) {
            case 0: x.feed(random.nextInt(), any(), random.nextInt(), any(), any()); break;
            case 1: x.end(any()); break;
            case 2: x.fault(any()); break;
            case 3: x.text(any()); break;
            case 4: callRule(); break;
            case 5: x.letter(any(), any()); break;
            case 6: x.sign(any(), any()); break;
            case 7: x.name(any(), any()); break;
            case 8: x.trees(any(), any(), any()); break;
            case 9: x.names(any()); break;
            case 10: x.toggle(any()); break;
            case 11: x.prefer(any()); break;
            case 12: x.undo(); break;
            case 13: x.states(any()); break;
            case 14: x.look(any(), any(), any(), any(), flag); break;
            case 15: x.state(any(), any(), any()); break;
            case 16: x.goesTo(any(), any(), any()); break;
            case 17: x.action(any(), any(), any(), flag); break;
            case 18: x.bridge(any(), any(), any(), any()); break;
            case 19: x.counts(any(), any()); break;
            case 20: x.path(any(), any(), any()); break;
            case 21: x.reads(any(), any(), any(), any()); break;
            case 22: x.reduced(any(), any(), any(), any()); break;
            case 23: x.expects(any(), any()); break;
            case 24: x.mends(any(), any()); break;
            case 25: x.tree(any(), any(), any(), any()); break;
            case 26: x.sorts(); break;
            case 27: x.same(any(), any(), any()); break;
            case 28: x.word(random.nextLong(), any()); break;
            case 29: x.keep(random.nextLong()); break;
            case 30: x.image(); break;
            case 31: x.back(); break;
            default: x.count(any()); break;
        }
    }

    private void callRule() {
        try {
            x.rule(any(), any());
        } catch (NoSuchElementException e) {
            // the one exception there is
        }
    }

    private void run() {
        for (int i = 0; i < CALLS; i++) {
            int how = random.nextInt(40);
            if (how == 0 || i == 5) {
                x.end(0);
                boolean known = random.nextBoolean();
                tell(known ? Grammars.KNOWN[random.nextInt(Grammars.KNOWN.length)] : Grammars.random(random), 0);
            } else if (how == 1) {
                x.end(0);
                tell(Grammars.sentence(random), 1);
            } else {
                call(random.nextInt(33));
            }
        }
    }

    public static void main(String[] args) {
        com.sun.management.ThreadMXBean threads = (com.sun.management.ThreadMXBean) ManagementFactory.getThreadMXBean();
        long self = Thread.currentThread().getId();
        int runs = args.length > 0 ? Integer.parseInt(args[0]) : 300;
        int wrong = 0;
        for (int seed = 0; seed < runs; seed++) {
            try {
                new RoomTest(seed).run();
            } catch (RuntimeException e) {
                wrong++;
                System.out.println("run " + seed + " threw " + e);
                e.printStackTrace(System.out);
            }
        }
        // the dearest: as many automata as can be, each with 200 states or near it
        long before = threads.getThreadAllocatedBytes(self);
        MinimalTables x = new MinimalTables();
        Grammars.feed(x, "A=ad;B=cdBbA;A=AbBBa;B=dBdBA;A=BAcAB;B=;B=");
        x.text(0);
        for (int i = 0; i < CALLS / 4; i++) {
            x.toggle(6);
            for (int kind = 0; kind < 3; kind++) {
                x.states(kind);
            }
        }
        long bytes = threads.getThreadAllocatedBytes(self) - before;
        if (bytes > BYTES_MOST) {
            wrong++;
            System.out.println("a run made " + bytes + " bytes");
        }
        System.out.println(runs + " runs of odd calls, " + bytes + " bytes in the dearest run, " + wrong + " wrong");
        if (wrong != 0) {
            System.exit(1);
        }
    }
}
