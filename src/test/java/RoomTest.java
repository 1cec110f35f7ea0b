import java.lang.management.ManagementFactory;

/** All calls of one run live in one room: an object and its 512 dearest calls must stay small. */
public final class RoomTest {
    // 600,000 objects and arrays with 7.3 million fields and elements, of which a run may have a small part
    private static final long MOST_BYTES_OF_AN_OBJECT = 200_000;
    private static final long MOST_BYTES_OF_A_CALL = 100;

    public static void main(String[] args) {
        Due due = new Due("room");
        com.sun.management.ThreadMXBean bean = (com.sun.management.ThreadMXBean) ManagementFactory.getThreadMXBean();
        long thread = Thread.currentThread().getId();
        full();
        long before = bean.getThreadAllocatedBytes(thread);
        NamesOnLetters x = full();
        long made = bean.getThreadAllocatedBytes(thread) - before;
        due.is("a full object takes " + made + " bytes", made <= MOST_BYTES_OF_AN_OBJECT, true);
        all(x);
        for (int call = 0; call < 26; call++) {
            before = bean.getThreadAllocatedBytes(thread);
            for (int k = 0; k < 10; k++) {
                one(x, call);
            }
            long bytes = (bean.getThreadAllocatedBytes(thread) - before) / 10;
            due.is("call " + call + " takes " + bytes + " bytes", bytes <= MOST_BYTES_OF_A_CALL, true);
        }
        due.end();
    }

    private static NamesOnLetters full() {
        NamesOnLetters x = new NamesOnLetters();
        for (int n = 0; n < 12; n++) {
            x.name(n % 2, n / 2 % 2, 80 * n);
        }
        for (int i = 0; i < 6; i++) {
            Due.law(x, i, "w>50&d<200|e+s*3-(n<k)*!m+w*w-d*d-p*x-c");
            Due.filter(x, i, "w>50&d<200|e+s*3-(r<2)*!1+w*w-d*d-p*x-c");
        }
        for (int h = 0; h < 24; h++) {
            x.house(h % 4, h / 6, h % 6);
            x.deal(h, 30, 60);
        }
        for (int i = 0; i < 96; i++) {
            x.ring(i, i % 3 > 0);
        }
        for (int k = 0; k < 40; k++) {
            x.asked(k, k + 1, 0);
        }
        return x;
    }

    private static void all(NamesOnLetters x) {
        for (int call = 0; call < 26; call++) {
            one(x, call);
        }
    }

    private static void one(NamesOnLetters x, int call) {
        switch (call) {
            case 0: x.share(0); break;
            case 1: x.aside(0); break;
            case 2: x.odds(0, 0); break;
            case 3: x.weighs(); break;
            case 4: x.names(0); break;
            case 5: x.drawn(); break;
            case 6: x.goes(0); break;
            case 7: x.says(); break;
            case 8: x.child(1); break;
            case 9: x.table(0, 0); break;
            case 10: x.likely(0, 0); break;
            case 11: x.fit(); break;
            case 12: x.named(1, 500000); break;
            case 13: x.sure(1, 0); break;
            case 14: x.most(); break;
            case 15: x.both(50); break;
            case 16: x.explains(3); break;
            case 17: x.join(0); break;
            case 18: x.bounds(0); break;
            case 19: x.years(50); break;
            case 20: x.mornings(1, 1, 1); break;
            case 21: x.pairs(); break;
            case 22: x.ask(); break;
            case 23: x.shows(16, 40, 30, 2); break;
            case 24: x.least(31, 30, 999999, 10); break;
            default: x.keep(0); x.again(0); x.value(0, 0); x.nearly(3); x.count(3);
        }
    }
}
