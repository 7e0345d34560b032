import java.util.ArrayList;
import java.util.Collections;
import java.util.List;
import java.util.Random;

/** Full objects, 20 notions and 40 AXIOMS of all sorts, drawn (always the same): all that they tell is as SlowRounds tells. */
public final class FullRunsTest {
    private static final int OBJECTS = 60;
    private static final int PARTS = 3;
    private static final int ASKED = 420;

    private static final Due due = new Due("FullRunsTest");

    private final Random random;
    private final SlowRounds slow = new SlowRounds();
    private final List<String> made = new ArrayList<>();

    private FullRunsTest(int seed) {
        random = new Random(seed);
    }

    public static void main(String[] args) {
        int full = 0;
        for (int seed = 0; seed < OBJECTS; seed++) {
            full += new FullRunsTest(seed).run() ? 1 : 0;
        }
        due.is("most of the objects were full", full > OBJECTS * 9 / 10 ? 1 : 0, 1);
        due.end();
    }

    private boolean run() {
        int classes = 2 + random.nextInt(9);
        for (int c = 0; c < classes; c++) {
            make("make");
        }
        for (int tries = 0; tries < 100 && slow.count(0) < 20; tries++) {
            makeNotion();
        }
        while (slow.count(2) < 40) {
            sayOne();
        }
        for (int a = 0; a < 40; a++) {
            if (random.nextInt(8) == 0) {
                make("unsay", a);
            }
        }
        make("conclude");
        compare();
        return slow.count(0) == 20;
    }

    private void makeNotion() {
        if (random.nextInt(3) == 0) {
            make("meet", notion(), notion());
        } else {
            make("has", random.nextInt(4), notion());
        }
    }

    /** Mostly of notions; NOTHING seldom, so that most houses have things. */
    private void sayOne() {
        int kind = random.nextInt(10);
        if (kind < 7) {
            int b = notion();
            make("say", notion(), b == 1 && random.nextInt(6) > 0 ? 0 : b);
        } else if (kind < 8) {
            make("role", random.nextInt(4), random.nextInt(4));
        } else {
            make("chain", random.nextInt(4), random.nextInt(4), random.nextInt(4));
        }
    }

    private int notion() {
        return random.nextInt(slow.count(0));
    }

    private void make(String name, int... given) {
        StringBuilder call = new StringBuilder(name).append('(');
        for (int i = 0; i < given.length; i++) {
            call.append(i == 0 ? "" : ", ").append(given[i]);
        }
        made.add(call.append(") = ").append(Call.on(slow, name, given)).toString());
    }

    /** An object lives for 512 calls: some of what it tells is drawn, and asked of one new object after the other. */
    private void compare() {
        List<String> tells = Tells.all(20, 40, Math.min(slow.toldSize(), 60));
        Collections.shuffle(tells, random);
        for (int part = 0; part < PARTS; part++) {
            Talk t = due.on("a full object").asks(made.toArray(new String[0]));
            t.is("digest()", slow.digest());
            for (String call : tells.subList(part * ASKED, (part + 1) * ASKED)) {
                t.asks(call + " = " + Talk.onSlow(slow, call));
            }
        }
    }
}
