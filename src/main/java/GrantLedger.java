public final class GrantLedger {
    private static final int USERS = 8;
    private static final int OWNER = 0;
    private static final int PRIVILEGES = 3;
    private static final int MOST_STANDING = 48;
    private static final int WRONG_INPUT = -1;
    private static final int NO_RIGHT = -2;

    // The first `count` slots are the standing grants, lesser times first:
    // that order lets one pass settle what falls. A grant that stands no longer
    // can never stand again, so nothing is kept of it.
    private final int[] givers = new int[MOST_STANDING];
    private final int[] takers = new int[MOST_STANDING];
    private final int[] privileges = new int[MOST_STANDING];
    private final boolean[] options = new boolean[MOST_STANDING];
    private final int[] times = new int[MOST_STANDING];
    private int count;
    private int nextTime;

    public GrantLedger() {
        count = 0;
        nextTime = 0;
    }

    public int grant(int giver, int taker, int privilege, boolean option) {
        if (!isUser(giver) || !isUser(taker) || !isPrivilege(privilege)) {
            return WRONG_INPUT;
        }
        if (giver == taker || taker == OWNER || count >= MOST_STANDING) {
            return WRONG_INPUT;
        }
        if (!hasRight(giver, privilege)) {
            return NO_RIGHT;
        }
        int time = nextTime;
        givers[count] = giver;
        takers[count] = taker;
        privileges[count] = privilege;
        options[count] = option;
        times[count] = time;
        count++;
        nextTime++;
        return time;
    }

    public int revoke(int giver, int taker, int privilege) {
        if (!isUser(giver) || !isUser(taker) || !isPrivilege(privilege)) {
            return WRONG_INPUT;
        }
        long takenBack = slotsBetween(giver, taker, privilege);
        return takeBack(takenBack);
    }

    public int expel(int user) {
        if (!isUser(user) || user == OWNER) {
            return WRONG_INPUT;
        }
        long takenBack = slotsTouching(user);
        return takeBack(takenBack);
    }

    public int holds(int user, int privilege) {
        if (!isUser(user) || !isPrivilege(privilege)) {
            return WRONG_INPUT;
        }
        return user == OWNER || countReceived(user, privilege) > 0 ? 1 : 0;
    }

    public int may(int user, int privilege) {
        if (!isUser(user) || !isPrivilege(privilege)) {
            return WRONG_INPUT;
        }
        return hasRight(user, privilege) ? 1 : 0;
    }

    public int received(int user, int privilege) {
        if (!isUser(user) || !isPrivilege(privilege)) {
            return WRONG_INPUT;
        }
        return countReceived(user, privilege);
    }

    public int given(int user, int privilege) {
        if (!isUser(user) || !isPrivilege(privilege)) {
            return WRONG_INPUT;
        }
        int found = 0;
        for (int slot = 0; slot < count; slot++) {
            if (givers[slot] == user && privileges[slot] == privilege) {
                found++;
            }
        }
        return found;
    }

    public int stands(int time) {
        for (int slot = 0; slot < count; slot++) {
            if (times[slot] == time) {
                return 1;
            }
        }
        return 0;
    }

    public int reach(int giver, int taker, int privilege) {
        if (!isUser(giver) || !isUser(taker) || !isPrivilege(privilege)) {
            return WRONG_INPUT;
        }
        long takenBack = slotsBetween(giver, taker, privilege);
        // A right comes only from a grant of the same privilege, so no grant of
        // another one can be among those that fall.
        long gone = withFallen(takenBack);
        return sizeOf(gone);
    }

    public int standing() {
        return count;
    }

    private static boolean isUser(int user) {
        return user >= 0 && user < USERS;
    }

    private static boolean isPrivilege(int privilege) {
        return privilege >= 0 && privilege < PRIVILEGES;
    }

    private boolean hasRight(int user, int privilege) {
        if (user == OWNER) {
            return true;
        }
        for (int slot = 0; slot < count; slot++) {
            if (takers[slot] == user && privileges[slot] == privilege && options[slot]) {
                return true;
            }
        }
        return false;
    }

    private int countReceived(int user, int privilege) {
        int found = 0;
        for (int slot = 0; slot < count; slot++) {
            if (takers[slot] == user && privileges[slot] == privilege) {
                found++;
            }
        }
        return found;
    }

    // Sets of slots are the bits of a long (48 slots fit), so that reach can
    // work out what would fall without touching the ledger.

    private long slotsBetween(int giver, int taker, int privilege) {
        long slots = 0L;
        for (int slot = 0; slot < count; slot++) {
            if (givers[slot] == giver && takers[slot] == taker && privileges[slot] == privilege) {
                slots |= 1L << slot;
            }
        }
        return slots;
    }

    private long slotsTouching(int user) {
        long slots = 0L;
        for (int slot = 0; slot < count; slot++) {
            if (givers[slot] == user || takers[slot] == user) {
                slots |= 1L << slot;
            }
        }
        return slots;
    }

    // A grant leans on earlier grants alone, so when the pass comes to a slot,
    // all that its giver's right can come from is already settled.
    private long withFallen(long takenBack) {
        long gone = takenBack;
        int rights = 0;
        for (int slot = 0; slot < count; slot++) {
            if (isIn(slot, gone)) {
                continue;
            }
            int giversRight = rightOf(givers[slot], privileges[slot]);
            if (givers[slot] != OWNER && (rights & giversRight) == 0) {
                gone |= 1L << slot;
            } else if (options[slot]) {
                rights |= rightOf(takers[slot], privileges[slot]);
            }
        }
        return gone;
    }

    private static int rightOf(int user, int privilege) {
        return 1 << (user * PRIVILEGES + privilege);
    }

    private static boolean isIn(int slot, long slots) {
        return (slots >>> slot & 1L) != 0L;
    }

    private static int sizeOf(long slots) {
        int size = 0;
        for (int slot = 0; slot < MOST_STANDING; slot++) {
            if (isIn(slot, slots)) {
                size++;
            }
        }
        return size;
    }

    private int takeBack(long takenBack) {
        long gone = withFallen(takenBack);
        drop(gone);
        return sizeOf(gone);
    }

    private void drop(long gone) {
        int kept = 0;
        for (int slot = 0; slot < count; slot++) {
            if (!isIn(slot, gone)) {
                move(slot, kept);
                kept++;
            }
        }
        count = kept;
    }

    private void move(int from, int to) {
        givers[to] = givers[from];
        takers[to] = takers[from];
        privileges[to] = privileges[from];
        options[to] = options[from];
        times[to] = times[from];
    }
}
