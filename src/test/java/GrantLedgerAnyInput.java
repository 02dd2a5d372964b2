// LANGUAGE.md, rules 7 and 11: no call may throw or fail to end, whatever its
// arguments and whatever came before, and the same calls give the same answers.
// So the runs here go far beyond the 512th call; what is answered there is free,
// but that an answer comes is not.
public final class GrantLedgerAnyInput {
    private static final int RUNS = 60;
    private static final int CALLS = 20000;
    private static final int KINDS = 10;
    private static final int MOST_TOLD = 50;

    private static final int[] EDGES = {
        Integer.MIN_VALUE, Integer.MIN_VALUE + 1, -65536, -257, -256, -64, -48, -32, -8, -3, -2, -1,
        0, 1, 2, 3, 4, 7, 8, 9, 15, 16, 23, 24, 31, 32, 33, 47, 48, 49, 63, 64, 65, 255, 256, 257,
        511, 512, 513, 65535, 65536, Integer.MAX_VALUE - 1, Integer.MAX_VALUE};

    private static int wrong = 0;
    private static long seed = 0;

    public static void main(String[] args) {
        everyEdgeOnEmptyAndFull();
        for (int run = 0; run < RUNS; run++) {
            playRun(run);
        }
        System.out.println(wrong == 0 ? "every call was answered" : wrong + " calls were not answered well");
        if (wrong != 0) {
            System.exit(1);
        }
    }

    private static void everyEdgeOnEmptyAndFull() {
        for (int kind = 0; kind < KINDS; kind++) {
            everyEdgeOf(kind, 0);
            everyEdgeOf(kind, 24);
            everyEdgeOf(kind, 48);
        }
    }

    private static void everyEdgeOf(int kind, int made) {
        GrantLedger x = new GrantLedger();
        for (int time = 0; time < made; time++) {
            x.grant(0, 1 + time % 7, time % 3, true);
        }
        for (int a : EDGES) {
            for (int b : EDGES) {
                for (int c : EDGES) {
                    answerOf(x, kind, a, b, c, true);
                }
            }
        }
    }

    private static void playRun(int run) {
        seed = run * 104729L + 3;
        GrantLedger x = new GrantLedger();
        GrantLedger twin = new GrantLedger();
        // The fewer are taken back, the longer the ledger is full.
        int takeBackIn1000 = 1 + pick(300);
        for (int call = 0; call < CALLS; call++) {
            int kind = pick(1000) < takeBackIn1000 ? 1 + pick(2) : pick(2) * (3 + pick(KINDS - 3));
            int a = anyNumber(8);
            int b = anyNumber(8);
            int c = anyNumber(3);
            boolean option = pick(3) != 0;
            int got = answerOf(x, kind, a, b, c, option);
            int again = answerOf(twin, kind, a, b, c, option);
            if (got != again) {
                wrong++;
                System.out.println("run " + run + ", call " + call + ": " + got + ", and of its twin " + again);
                return;
            }
        }
    }

    private static int anyNumber(int bound) {
        int kind = pick(40);
        return kind == 0 ? EDGES[pick(EDGES.length)] : kind == 1 ? (int) (next() >>> 32) : pick(bound);
    }

    private static int pick(int bound) {
        return (int) ((next() >>> 33) % bound);
    }

    // A fixed row of numbers: the same runs are played each time.
    private static long next() {
        seed = seed * 6364136223846793005L + 1442695040888963407L;
        return seed;
    }

    private static int answerOf(GrantLedger x, int kind, int a, int b, int c, boolean option) {
        try {
            return call(x, kind, a, b, c, option);
        } catch (RuntimeException | Error thrown) {
            wrong++;
            if (wrong <= MOST_TOLD) {
                System.out.println("method " + kind + " with " + a + ", " + b + ", " + c + ", " + option + ": " + thrown);
            }
            return Integer.MIN_VALUE;
        }
    }

    private static int call(GrantLedger x, int kind, int a, int b, int c, boolean option) {
        switch (kind) {
            case 0: return x.grant(a, b, c, option);
            case 1: return x.revoke(a, b, c);
            case 2: return x.expel(a);
            case 3: return x.holds(a, c);
            case 4: return x.may(a, c);
            case 5: return x.received(a, c);
            case 6: return x.given(a, c);
            case 7: return x.stands(a);
            case 8: return x.reach(a, b, c);
            default: return x.standing();
        }
    }
}
