import com.sun.management.ThreadMXBean;
import java.lang.management.ManagementFactory;

/** The largest texts and trees in 512 calls: they end, come out right, and make next to no objects. */
public final class RoomTests {
    private static int wrong = 0;

    private static void is(String what, long got, long want) {
        if (got != want) {
            wrong++;
            System.out.println(what + " answered " + got + ", due is " + want);
        }
    }

    private static void atMost(String what, long got, long most) {
        if (got > most) {
            wrong++;
            System.out.println(what + " took " + got + " bytes, " + most + " is the most");
        }
    }

    private static void write(AttributeHouse x, String text) {
        x.end(0);
        for (int i = 0; i < text.length(); i += 4) {
            int signs = 0;
            for (int j = 0; j < 4 && i + j < text.length(); j++) {
                signs |= text.charAt(i + j) << 8 * j;
            }
            x.put(signs);
        }
    }

    /** Each node but the last adds 1100 to what the one below it has. */
    private static void largest(AttributeHouse x) {
        String grammar = "symbol a up x;p:a=#a{0.x=1.x" + "+1".repeat(1100) + ";}e:a=#{0.x=#;}";
        String tree = "p 0(".repeat(249) + "e 1" + ")".repeat(249);
        write(x, grammar);
        is("grammar()", x.grammar(), -1);
        for (int i = 0; i < 100; i++) {
            is("grammar() again", x.grammar(), -1);
        }
        write(x, tree);
        for (int i = 0; i < 100; i++) {
            is("tree()", x.tree(), -1);
        }
        is("value", x.value(0, 0), 249 * 1100 + 1);
        for (int i = 0; i < 100; i++) {
            is("change", x.change(249, 2 + i), 250);
        }
        is("value then", x.value(0, 0), 249 * 1100 + 101);
        x.begin();
        int steps = 0;
        for (int i = 0; i < 10; i++) {
            steps += x.step(100000);
        }
        is("steps", steps, x.machine(3));
        is("instructions", x.machine(3), 249 * (1 + 1 + 2200 + 1 + 1) + 3);
        is("held", x.held(0, 0), 249 * 1100 + 101);
    }

    /** As many symbols and productions as there can be, with all attributes that fit. */
    private static void widest(AttributeHouse x) {
        StringBuilder text = new StringBuilder("symbol a up u;");
        for (int s = 1; s < 12; s++) {
            text.append("symbol ").append((char) ('a' + s)).append(" down d,e up u,v;");
        }
        for (int p = 0; p < 30; p++) {
            char head = (char) ('a' + p % 12);
            char next = (char) ('a' + Math.min(11, p % 12 + 1));
            text.append("p").append((char) ('a' + p / 26)).append((char) ('a' + p % 26)).append(':').append(head);
            if (p % 12 == 0) {
                text.append('=').append(next).append("{0.u=1.v;1.d=1;1.e=1.u;}");
            } else if (p < 24 && p % 12 < 11) {
                text.append('=').append(next).append("{0.u=1.u;0.v=1.v;1.d=0.d;1.e=0.e;}");
            } else {
                text.append("={0.u=0.d;0.v=0.e;}");
            }
        }
        write(x, text.toString());
        for (int i = 0; i < 200; i++) {
            is("grammar() of the widest", x.grammar(), -1);
        }
        is("symbols", x.size(0), 12);
        is("productions", x.size(1), 30);
        for (int s = 1; s < 12; s++) {
            is("visits of " + s, x.level(s, -1), 2);
        }
    }

    public static void main(String[] args) {
        ThreadMXBean threads = (ThreadMXBean) ManagementFactory.getThreadMXBean();
        boolean counts = threads.isThreadAllocatedMemorySupported() && threads.isThreadAllocatedMemoryEnabled();
        largest(new AttributeHouse());
        widest(new AttributeHouse());
        // The second time no class is loaded and nothing but the calls themselves takes room.
        AttributeHouse[] two = new AttributeHouse[2];
        long before = counts ? threads.getThreadAllocatedBytes(Thread.currentThread().getId()) : 0;
        two[0] = new AttributeHouse();
        two[1] = new AttributeHouse();
        long made = counts ? threads.getThreadAllocatedBytes(Thread.currentThread().getId()) : 0;
        largest(two[0]);
        widest(two[1]);
        long after = counts ? threads.getThreadAllocatedBytes(Thread.currentThread().getId()) : 0;
        atMost("two new objects", made - before, 1000000);
        atMost("all their calls", after - made, 200000);
        System.out.println(made - before + " bytes for two objects, " + (after - made) + " for all their calls");
        if (wrong != 0) {
            System.exit(1);
        }
    }
}
