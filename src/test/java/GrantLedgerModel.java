import java.util.ArrayList;
import java.util.List;

// Long mixed runs of calls, each answer compared with that of a model which
// follows the document's words one by one and keeps every grant ever made.
public final class GrantLedgerModel {
    private static final int RUNS = 4000;
    private static final int CALLS = 512;

    private static int wrong = 0;
    private static long seed = 0;

    private static final class Grant {
        int giver;
        int taker;
        int privilege;
        boolean option;
        boolean stands;
    }

    // The index of a grant in the list is its time.
    private static final class Model {
        final List<Grant> grants = new ArrayList<>();

        static boolean user(int user) {
            return 0 <= user && user <= 7;
        }

        static boolean privilege(int privilege) {
            return 0 <= privilege && privilege <= 2;
        }

        // Whether the user has the right from a grant with a time less than this one.
        boolean rightBefore(int user, int privilege, int time) {
            if (user == 0) {
                return true;
            }
            for (int earlier = 0; earlier < time; earlier++) {
                Grant g = grants.get(earlier);
                if (g.stands && g.taker == user && g.privilege == privilege && g.option) {
                    return true;
                }
            }
            return false;
        }

        int grant(int giver, int taker, int privilege, boolean option) {
            if (!user(giver) || !user(taker) || giver == taker || taker == 0
                || !privilege(privilege) || standing() == 48) {
                return -1;
            }
            if (!rightBefore(giver, privilege, grants.size())) {
                return -2;
            }
            Grant g = new Grant();
            g.giver = giver;
            g.taker = taker;
            g.privilege = privilege;
            g.option = option;
            g.stands = true;
            grants.add(g);
            return grants.size() - 1;
        }

        // From the last to the first and again until nothing falls any more, so
        // that the outcome does not hang on the order in which grants are looked at.
        void settle() {
            boolean fell = true;
            while (fell) {
                fell = false;
                for (int time = grants.size() - 1; time >= 0; time--) {
                    Grant g = grants.get(time);
                    if (g.stands && !rightBefore(g.giver, g.privilege, time)) {
                        g.stands = false;
                        fell = true;
                    }
                }
            }
        }

        int revoke(int giver, int taker, int privilege) {
            if (!user(giver) || !user(taker) || !privilege(privilege)) {
                return -1;
            }
            int before = standing();
            for (Grant g : grants) {
                if (g.giver == giver && g.taker == taker && g.privilege == privilege) {
                    g.stands = false;
                }
            }
            settle();
            return before - standing();
        }

        int expel(int user) {
            if (!user(user) || user == 0) {
                return -1;
            }
            int before = standing();
            for (Grant g : grants) {
                if (g.giver == user || g.taker == user) {
                    g.stands = false;
                }
            }
            settle();
            return before - standing();
        }

        int holds(int user, int privilege) {
            int received = received(user, privilege);
            if (received < 0) {
                return -1;
            }
            return user == 0 || received > 0 ? 1 : 0;
        }

        int may(int user, int privilege) {
            if (!user(user) || !privilege(privilege)) {
                return -1;
            }
            return rightBefore(user, privilege, grants.size()) ? 1 : 0;
        }

        int received(int user, int privilege) {
            if (!user(user) || !privilege(privilege)) {
                return -1;
            }
            return (int) grants.stream().filter(g -> g.stands && g.taker == user && g.privilege == privilege).count();
        }

        int given(int user, int privilege) {
            if (!user(user) || !privilege(privilege)) {
                return -1;
            }
            return (int) grants.stream().filter(g -> g.stands && g.giver == user && g.privilege == privilege).count();
        }

        int stands(int time) {
            return time >= 0 && time < grants.size() && grants.get(time).stands ? 1 : 0;
        }

        int reach(int giver, int taker, int privilege) {
            if (!user(giver) || !user(taker) || !privilege(privilege)) {
                return -1;
            }
            boolean[] stood = new boolean[grants.size()];
            for (int time = 0; time < stood.length; time++) {
                stood[time] = grants.get(time).stands;
            }
            revoke(giver, taker, privilege);
            int gone = 0;
            for (int time = 0; time < stood.length; time++) {
                Grant g = grants.get(time);
                if (stood[time] && !g.stands && g.privilege == privilege) {
                    gone++;
                }
                g.stands = stood[time];
            }
            return gone;
        }

        int standing() {
            return (int) grants.stream().filter(g -> g.stands).count();
        }
    }

    public static void main(String[] args) {
        int[] sizes = new int[49];
        for (int run = 0; run < RUNS; run++) {
            playRun(run, sizes);
        }
        // The runs are worth little if they never fill the ledger.
        if (sizes[48] == 0) {
            wrong++;
            System.out.println("no run came to 48 standing grants");
        }
        System.out.println(wrong == 0 ? "all answers are as the model's" : wrong + " answers are not as the model's");
        if (wrong != 0) {
            System.exit(1);
        }
    }

    private static void playRun(int run, int[] sizes) {
        seed = run * 7919L + 1;
        GrantLedger x = new GrantLedger();
        Model m = new Model();
        StringBuilder played = new StringBuilder();
        // Runs differ in how often they take back, and in how many users and
        // privileges they use, so that some are deep and some are full.
        int takeBackIn1000 = 2 + pick(150);
        int users = 3 + pick(6);
        int privileges = 1 + pick(3);
        for (int call = 0; call < CALLS; call++) {
            int kind = pick(1000) < takeBackIn1000 ? pick(2) : 2 + pick(13);
            int a = user(users);
            int b = user(users);
            int p = privilege(privileges);
            boolean option = pick(3) != 0;
            int time = pick(20) == 0 ? pick(600) - 40 : pick(m.grants.size() + 2);
            String what = nameOf(kind, a, b, p, option, time);
            played.append(what).append("; ");
            int want = onModel(m, kind, a, b, p, option, time);
            int got = onLedger(x, kind, a, b, p, option, time);
            sizes[m.standing()]++;
            if (got != want) {
                wrong++;
                System.out.println("run " + run + ": " + played + "answered " + got + ", the model " + want);
                return;
            }
        }
    }

    private static int user(int users) {
        return pick(40) == 0 ? pick(12) - 2 : pick(users);
    }

    private static int privilege(int privileges) {
        return pick(40) == 0 ? pick(7) - 2 : pick(privileges);
    }

    // A fixed row of numbers: the same runs are played each time.
    private static int pick(int bound) {
        seed = seed * 6364136223846793005L + 1442695040888963407L;
        return (int) ((seed >>> 33) % bound);
    }

    private static String nameOf(int kind, int a, int b, int p, boolean option, int time) {
        switch (kind) {
            case 0: return "revoke(" + a + ", " + b + ", " + p + ")";
            case 1: return "expel(" + a + ")";
            case 2: return "holds(" + a + ", " + p + ")";
            case 3: return "may(" + a + ", " + p + ")";
            case 4: return "received(" + a + ", " + p + ")";
            case 5: return "given(" + a + ", " + p + ")";
            case 6: return "stands(" + time + ")";
            case 7: return "reach(" + a + ", " + b + ", " + p + ")";
            case 8: return "standing()";
            default: return "grant(" + a + ", " + b + ", " + p + ", " + option + ")";
        }
    }

    private static int onModel(Model m, int kind, int a, int b, int p, boolean option, int time) {
        switch (kind) {
            case 0: return m.revoke(a, b, p);
            case 1: return m.expel(a);
            case 2: return m.holds(a, p);
            case 3: return m.may(a, p);
            case 4: return m.received(a, p);
            case 5: return m.given(a, p);
            case 6: return m.stands(time);
            case 7: return m.reach(a, b, p);
            case 8: return m.standing();
            default: return m.grant(a, b, p, option);
        }
    }

    private static int onLedger(GrantLedger x, int kind, int a, int b, int p, boolean option, int time) {
        switch (kind) {
            case 0: return x.revoke(a, b, p);
            case 1: return x.expel(a);
            case 2: return x.holds(a, p);
            case 3: return x.may(a, p);
            case 4: return x.received(a, p);
            case 5: return x.given(a, p);
            case 6: return x.stands(time);
            case 7: return x.reach(a, b, p);
            case 8: return x.standing();
            default: return x.grant(a, b, p, option);
        }
    }
}
