// A test of its own for each sentence of the document that names a boundary
// case: the least and the greatest input, the first ones beyond, the empty
// ledger, the full one, a refused call. Above each test stand the words it is
// about. No object here gets more than the 512 calls that the document allows.
public final class GrantLedgerBoundaries {
    private static final int MIN = Integer.MIN_VALUE;
    private static final int MAX = Integer.MAX_VALUE;

    // Beside the nearest ones, those that turn into a good input where some of
    // their bits get lost.
    private static final int[] USERS_TOO_SMALL = {-1, -2, -7, -8, -255, -256, -65535, MIN, MIN + 1};
    private static final int[] USERS_TOO_LARGE = {8, 9, 15, 16, 17, 33, 65, 256, 257, 65536, 65537, MAX};
    private static final int[] PRIVILEGES_TOO_SMALL = {-1, -2, -3, -255, -256, -65536, MIN, MIN + 1};
    private static final int[] PRIVILEGES_TOO_LARGE = {3, 4, 5, 8, 32, 33, 64, 256, 257, 65536, MAX};

    private static int wrong = 0;

    private interface Call {
        int on(GrantLedger x, int input);
    }

    public static void main(String[] args) {
        terms();
        standingRule();
        promise1();
        promise2();
        promise3();
        promise4();
        promises5To8();
        promise9();
        promise10();
        promise11();
        promise12();
        System.out.println(wrong == 0 ? "all answers are as due" : wrong + " answers are not as due");
        if (wrong != 0) {
            System.exit(1);
        }
    }

    private static void due(String what, int got, int want) {
        if (got != want) {
            wrong++;
            System.out.println(what + " answered " + got + ", due is " + want);
        }
    }

    // Everything that an object shows: 353 calls, the last two of which change
    // it so as to see the next time, also where 48 grants stand.
    private static int[] shownBy(GrantLedger x) {
        int[] shown = new int[353];
        int at = 0;
        shown[at++] = x.standing();
        for (int time = -1; time <= 60; time++) {
            shown[at++] = x.stands(time);
        }
        for (int user = 0; user <= 7; user++) {
            for (int privilege = 0; privilege <= 2; privilege++) {
                shown[at++] = x.holds(user, privilege);
                shown[at++] = x.may(user, privilege);
                shown[at++] = x.received(user, privilege);
                shown[at++] = x.given(user, privilege);
                for (int taker = 0; taker <= 7; taker++) {
                    shown[at++] = x.reach(user, taker, privilege);
                }
            }
        }
        shown[at++] = x.expel(1);
        shown[at++] = x.grant(0, 1, 0, true);
        return shown;
    }

    // Two objects made by the same calls, one of which has had more calls that
    // should have changed nothing.
    private static void unchanged(String what, GrantLedger x, GrantLedger twin) {
        int[] got = shownBy(x);
        int[] want = shownBy(twin);
        for (int at = 0; at < want.length; at++) {
            due(what + ": unchanged, answer " + at, got[at], want[at]);
        }
    }

    private static void refuses(String what, int[] inputs, Call call) {
        GrantLedger x = some();
        for (int input : inputs) {
            due(what + ": " + input, call.on(x, input), -1);
        }
        unchanged(what, x, some());
    }

    private static void takes(String what, int least, int greatest, Call call) {
        for (int input = least; input <= greatest; input++) {
            int got = call.on(some(), input);
            if (got < 0) {
                due(what + ": " + input, got, 0);
            }
        }
    }

    // Neither empty nor full, of each privilege, with and without option, and
    // with times that stand no longer. Next time: 11.
    private static GrantLedger some() {
        GrantLedger x = new GrantLedger();
        x.grant(0, 1, 0, true);
        x.grant(0, 7, 2, true);
        x.grant(0, 3, 1, false);
        x.grant(1, 2, 0, true);
        x.grant(0, 4, 1, true);
        x.grant(4, 5, 1, true);
        x.grant(7, 6, 2, false);
        x.grant(2, 1, 0, true);
        x.revoke(0, 4, 1);
        x.grant(7, 1, 2, false);
        x.grant(1, 7, 0, false);
        x.grant(0, 4, 1, true);
        return x;
    }

    // 48 grants, no two with the same giver, taker and privilege: the owner's
    // with option (times 0 to 20), and those that lean on one of them each.
    private static int giverOf(int time) {
        return time < 21 ? 0 : time < 42 ? 1 + (time - 21) % 7 : 1 + (time - 42);
    }

    private static int takerOf(int time) {
        return time < 21 ? 1 + time % 7 : time < 42 ? 1 + (time - 20) % 7 : 1 + (time - 40) % 7;
    }

    private static int privilegeOf(int time) {
        return time < 21 ? time / 7 : time < 42 ? (time - 21) / 7 : 0;
    }

    private static int make(GrantLedger x, int time) {
        return x.grant(giverOf(time), takerOf(time), privilegeOf(time), time < 21);
    }

    private static GrantLedger withFirst(int count) {
        GrantLedger x = new GrantLedger();
        for (int time = 0; time < count; time++) {
            due("made with time " + time, make(x, time), time);
        }
        return x;
    }

    private static GrantLedger full() {
        return withFirst(48);
    }

    // One circle of all users but the owner, of 48 grants that all lean on the first.
    private static GrantLedger circle(int privilege) {
        GrantLedger x = new GrantLedger();
        x.grant(0, 1, privilege, true);
        for (int time = 1; time < 48; time++) {
            int giver = 1 + (time - 1) % 7;
            due("circle, time " + time, x.grant(giver, 1 + time % 7, privilege, true), time);
        }
        return x;
    }

    // What it is, and Terms

    private static void terms() {
        allOf512CallsAreAnswered();
        usersAndPrivilegesHaveTheseBounds();
        grantsAreNumberedFrom0AsTheyAreMade();
        refusedGrantsHaveNoNumber();
        fortyEightOfOneKindStand();
        fortyEightStandAtATimeAndNotInAll();
    }

    // "An object is used for at most 512 calls after it has been made"
    private static void allOf512CallsAreAnswered() {
        GrantLedger x = new GrantLedger();
        int time = 0;
        for (int round = 0; round < 10; round++) {
            for (int made = 0; made < 48; made++) {
                due("512 calls: grant", x.grant(0, 7, 2, true), time);
                time++;
            }
            due("512 calls: revoke", x.revoke(0, 7, 2), 48);
        }
        for (int call = 491; call <= 510; call++) {
            due("512 calls: grant " + call, x.grant(0, 1, 0, true), time);
            time++;
        }
        due("512 calls: the 511th", x.stands(499), 1);
        due("512 calls: the 512th", x.grant(1, 2, 0, true), 500);
    }

    // "USERS are 0 to 7", "PRIVILEGES are 0 to 2", "two different users, the
    // taker not the owner"
    private static void usersAndPrivilegesHaveTheseBounds() {
        for (int giver = -2; giver <= 9; giver++) {
            for (int taker = -2; taker <= 9; taker++) {
                for (int privilege = -2; privilege <= 4; privilege++) {
                    boundsOnNewObjects(giver, taker, privilege);
                }
            }
        }
    }

    private static void boundsOnNewObjects(int giver, int taker, int privilege) {
        boolean named = giver >= 0 && giver <= 7 && taker >= 0 && taker <= 7 && privilege >= 0 && privilege <= 2;
        boolean makes = named && giver != taker && taker != 0;
        String of = "(" + giver + ", " + taker + ", " + privilege + ")";
        GrantLedger x = new GrantLedger();
        due("new: revoke" + of, x.revoke(giver, taker, privilege), named ? 0 : -1);
        due("new: reach" + of, x.reach(giver, taker, privilege), named ? 0 : -1);
        due("new: grant" + of, x.grant(giver, taker, privilege, true), !makes ? -1 : giver == 0 ? 0 : -2);
        due("new: standing after grant" + of, x.standing(), makes && giver == 0 ? 1 : 0);
    }

    // "grants are numbered from 0 in the order in which they are made"
    private static void grantsAreNumberedFrom0AsTheyAreMade() {
        GrantLedger x = new GrantLedger();
        due("times: first", x.grant(0, 1, 2, true), 0);
        due("times: another privilege, one row of numbers", x.grant(0, 1, 0, true), 1);
        due("times: another giver, one row of numbers", x.grant(1, 2, 2, true), 2);
        due("times: take all back", x.expel(1), 3);
        due("times: go on where none stands", x.grant(0, 1, 2, true), 3);
    }

    // "(else it is not made at all)"
    private static void refusedGrantsHaveNoNumber() {
        GrantLedger x = new GrantLedger();
        due("no number: first", x.grant(0, 1, 0, false), 0);
        due("no number: no right", x.grant(1, 2, 0, true), -2);
        due("no number: wrong input", x.grant(0, 8, 0, true), -1);
        due("no number: next", x.grant(0, 2, 0, true), 1);
        due("no number: what was refused is not made later", x.grant(0, 1, 0, true), 2);
        due("no number: standing", x.standing(), 3);
    }

    // "At most 48 grants stand at a time"
    private static void fortyEightOfOneKindStand() {
        GrantLedger x = new GrantLedger();
        for (int time = 0; time < 48; time++) {
            due("one kind: standing before " + time, x.standing(), time);
            due("one kind: grant", x.grant(0, 7, 2, false), time);
        }
        due("one kind: the 49th", x.grant(0, 7, 2, false), -1);
        due("one kind: another privilege", x.grant(0, 7, 0, false), -1);
        due("one kind: standing", x.standing(), 48);
        due("one kind: received", x.received(7, 2), 48);
        due("one kind: given", x.given(0, 2), 48);
        due("one kind: reach", x.reach(0, 7, 2), 48);
        due("one kind: expel", x.expel(7), 48);
    }

    private static void fortyEightStandAtATimeAndNotInAll() {
        GrantLedger x = full();
        due("at a time: full", x.grant(0, 1, 0, true), -1);
        due("at a time: one taken back", x.revoke(6, 1, 0), 1);
        due("at a time: room for one", x.grant(0, 1, 0, true), 48);
        due("at a time: and no more", x.grant(0, 1, 0, true), -1);
        due("at a time: two fall with one", x.revoke(0, 2, 0), 3);
        for (int time = 49; time < 52; time++) {
            due("at a time: room for three", x.grant(0, 1, 0, true), time);
        }
        due("at a time: and no more again", x.grant(0, 1, 0, true), -1);
        due("at a time: standing", x.standing(), 48);
        due("at a time: expel", x.expel(7), 10);
        due("at a time: room after expel", x.grant(0, 7, 0, true), 52);
    }

    // STANDING

    private static void standingRule() {
        rightOfTheGrantJustBeforeCounts();
        rightOfTheGrantJustAfterDoesNot();
        rightThatHasFallenItselfDoesNot();
        everyRightIsApartFromEveryOther();
        fallGoesOnToTheLastGrant();
        fallStopsAtOwnersGrants();
        whatStaysKeepsItsOption();
        goneGrantsNeverStandAgain();
    }

    // "that stands (still) and has a lesser time"
    private static void rightOfTheGrantJustBeforeCounts() {
        GrantLedger x = new GrantLedger();
        x.grant(0, 1, 0, true);
        x.grant(0, 2, 0, true);
        x.grant(2, 1, 0, true);
        x.grant(1, 3, 0, false);
        due("just before: revoke", x.revoke(0, 1, 0), 1);
        due("just before: stays", x.stands(3), 1);
    }

    private static void rightOfTheGrantJustAfterDoesNot() {
        GrantLedger x = new GrantLedger();
        x.grant(0, 1, 0, true);
        x.grant(0, 2, 0, true);
        x.grant(1, 3, 0, false);
        x.grant(2, 1, 0, true);
        due("just after: revoke", x.revoke(0, 1, 0), 2);
        due("just after: falls", x.stands(2), 0);
        due("just after: the right itself", x.may(1, 0), 1);
    }

    private static void rightThatHasFallenItselfDoesNot() {
        GrantLedger x = new GrantLedger();
        x.grant(0, 1, 0, true);
        x.grant(1, 2, 0, true);
        x.grant(2, 3, 0, true);
        x.grant(1, 3, 0, true);
        x.grant(3, 4, 0, false);
        due("fallen right: all five", x.revoke(0, 1, 0), 5);
    }

    // "of the same privilege with option"
    private static void everyRightIsApartFromEveryOther() {
        for (int user = 1; user <= 7; user++) {
            for (int privilege = 0; privilege <= 2; privilege++) {
                GrantLedger x = withFirst(42);
                due("apart: reach of " + user + ", " + privilege, x.reach(0, user, privilege), 2);
                due("apart: revoke of " + user + ", " + privilege, x.revoke(0, user, privilege), 2);
                due("apart: what leaned on it", x.given(user, privilege), 0);
                due("apart: others stay", x.standing(), 40);
            }
        }
    }

    // "all others fall, and so on, until every standing grant has its giver's
    // right from an earlier standing one"
    private static void fallGoesOnToTheLastGrant() {
        for (int privilege = 0; privilege <= 2; privilege++) {
            GrantLedger x = circle(privilege);
            due("and so on: last stands", x.stands(47), 1);
            due("and so on: all 48", x.revoke(0, 1, privilege), 48);
            due("and so on: last has fallen", x.stands(47), 0);
            due("and so on: standing", x.standing(), 0);
        }
    }

    // "only if its giver is the owner, or"
    private static void fallStopsAtOwnersGrants() {
        GrantLedger x = new GrantLedger();
        x.grant(0, 1, 0, true);
        x.grant(1, 2, 0, true);
        x.grant(0, 2, 0, false);
        x.grant(0, 3, 0, true);
        due("owner's: revoke", x.revoke(0, 1, 0), 2);
        due("owner's: without option", x.stands(2), 1);
        due("owner's: with option", x.stands(3), 1);
    }

    // "each grant that stands stays standing": with its option, or without
    private static void whatStaysKeepsItsOption() {
        GrantLedger x = new GrantLedger();
        x.grant(0, 1, 0, false);
        x.grant(0, 2, 0, true);
        x.grant(0, 3, 0, false);
        x.grant(0, 4, 2, true);
        due("option: the first goes", x.revoke(0, 1, 0), 1);
        due("option: with, now the first", x.may(2, 0), 1);
        due("option: without", x.may(3, 0), 0);
        due("option: with, the last", x.may(4, 2), 1);
        due("option: used", x.grant(2, 1, 0, false), 4);
        due("option: without is refused", x.grant(3, 1, 0, false), -2);
    }

    // "Grants that have fallen or have been taken back never stand again."
    private static void goneGrantsNeverStandAgain() {
        GrantLedger x = new GrantLedger();
        x.grant(0, 1, 0, true);
        x.grant(1, 2, 0, true);
        x.grant(2, 3, 0, true);
        due("never again: revoke", x.revoke(0, 1, 0), 3);
        due("never again: right anew", x.grant(0, 1, 0, true), 3);
        due("never again: given anew", x.grant(1, 2, 0, true), 4);
        for (int time = 0; time < 3; time++) {
            due("never again: stands " + time, x.stands(time), 0);
        }
        due("never again: holds of the last", x.holds(3, 0), 0);
        due("never again: standing", x.standing(), 2);
    }

    private static void promise1() {
        newObjectShowsNoGrant();
        newObjectHasNothingToTakeBack();
        nextTimeOfNewObjectIs0();
    }

    // "No grant"
    private static void newObjectShowsNoGrant() {
        GrantLedger x = new GrantLedger();
        due("1: standing", x.standing(), 0);
        for (int user = 0; user <= 7; user++) {
            for (int privilege = 0; privilege <= 2; privilege++) {
                String of = " of " + user + ", " + privilege;
                due("1: holds" + of, x.holds(user, privilege), user == 0 ? 1 : 0);
                due("1: may" + of, x.may(user, privilege), user == 0 ? 1 : 0);
                due("1: received" + of, x.received(user, privilege), 0);
                due("1: given" + of, x.given(user, privilege), 0);
            }
        }
        for (int time = -1; time <= 48; time++) {
            due("1: stands(" + time + ")", x.stands(time), 0);
        }
    }

    private static void newObjectHasNothingToTakeBack() {
        GrantLedger x = new GrantLedger();
        for (int user = 1; user <= 7; user++) {
            due("1: expel of " + user, x.expel(user), 0);
        }
        due("1: revoke", x.revoke(0, 1, 0), 0);
        due("1: reach", x.reach(0, 1, 0), 0);
        unchanged("1: after calls on the empty ledger", x, new GrantLedger());
    }

    // "the next time is 0"
    private static void nextTimeOfNewObjectIs0() {
        due("1: owner's first", new GrantLedger().grant(0, 7, 2, false), 0);
        GrantLedger x = new GrantLedger();
        due("1: a user's before", x.grant(1, 2, 0, true), -2);
        due("1: then the owner's", x.grant(0, 1, 0, true), 0);
    }

    private static void promise2() {
        grantRefusesGivers();
        grantRefusesTakers();
        grantRefusesPrivileges();
        grantRefusesTheSameUser();
        grantRefusesTheOwnerAsTaker();
        grantRefusesWhere48Stand();
        grantRefusesWithoutRight();
        rightLastsAsLongAsAGrantWithOption();
    }

    // "-1, and changes nothing, if giver or taker is not from 0 to 7"
    private static void grantRefusesGivers() {
        refuses("2: giver too small", USERS_TOO_SMALL, (x, giver) -> x.grant(giver, 2, 0, true));
        refuses("2: giver too large", USERS_TOO_LARGE, (x, giver) -> x.grant(giver, 2, 0, true));
        due("2: least giver", some().grant(0, 2, 0, true), 11);
        due("2: greatest giver", some().grant(7, 2, 2, true), 11);
    }

    private static void grantRefusesTakers() {
        refuses("2: taker too small", USERS_TOO_SMALL, (x, taker) -> x.grant(0, taker, 0, true));
        refuses("2: taker too large", USERS_TOO_LARGE, (x, taker) -> x.grant(0, taker, 0, true));
        due("2: least taker", some().grant(0, 1, 0, true), 11);
        due("2: greatest taker", some().grant(0, 7, 0, true), 11);
    }

    // "privilege is not from 0 to 2"
    private static void grantRefusesPrivileges() {
        refuses("2: privilege too small", PRIVILEGES_TOO_SMALL, (x, privilege) -> x.grant(0, 2, privilege, true));
        refuses("2: privilege too large", PRIVILEGES_TOO_LARGE, (x, privilege) -> x.grant(0, 2, privilege, true));
        due("2: least privilege", some().grant(0, 2, 0, true), 11);
        due("2: greatest privilege", some().grant(0, 2, 2, true), 11);
    }

    // "they are the same"
    private static void grantRefusesTheSameUser() {
        int[] users = {0, 1, 2, 3, 4, 5, 6, 7};
        refuses("2: to oneself, privilege 0", users, (x, user) -> x.grant(user, user, 0, true));
        refuses("2: to oneself, privilege 2", users, (x, user) -> x.grant(user, user, 2, false));
    }

    // "taker is the owner"
    private static void grantRefusesTheOwnerAsTaker() {
        int[] givers = {1, 2, 3, 4, 5, 6, 7};
        refuses("2: to the owner, privilege 0", givers, (x, giver) -> x.grant(giver, 0, 0, true));
        refuses("2: to the owner, privilege 2", givers, (x, giver) -> x.grant(giver, 0, 2, false));
    }

    // "or 48 grants stand"
    private static void grantRefusesWhere48Stand() {
        GrantLedger x = withFirst(47);
        due("2: with 47", make(x, 47), 47);
        due("2: with 48, the owner", x.grant(0, 1, 0, true), -1);
        due("2: with 48, a user with the right", x.grant(7, 1, 2, false), -1);
        unchanged("2: with 48", x, full());
    }

    // "-2, and changes nothing, if the giver may not grant the privilege"
    private static void grantRefusesWithoutRight() {
        GrantLedger x = some();
        due("2: -2 with nothing", x.grant(5, 2, 1, true), -2);
        due("2: -2 with no option", x.grant(3, 2, 1, true), -2);
        due("2: -2 with another privilege", x.grant(1, 2, 1, true), -2);
        due("2: -2 with no option of this one", x.grant(1, 2, 2, true), -2);
        due("2: -2 of the greatest user", x.grant(7, 2, 0, false), -2);
        unchanged("2: -2", x, some());
    }

    // "if its giver may grant at that moment"
    private static void rightLastsAsLongAsAGrantWithOption() {
        GrantLedger x = new GrantLedger();
        due("2: moment before", x.grant(1, 2, 0, false), -2);
        due("2: right comes", x.grant(0, 1, 0, true), 0);
        due("2: moment after", x.grant(1, 2, 0, false), 1);
        due("2: right goes", x.revoke(0, 1, 0), 2);
        due("2: moment after that", x.grant(1, 2, 0, false), -2);
    }

    private static void promise3() {
        revokeRefusesGivers();
        revokeRefusesTakers();
        revokeRefusesPrivileges();
        revokeOfNothingIs0();
        revokeTakesAllOfThem();
        revokeOfEachOf48();
    }

    // "-1 if giver or taker is not from 0 to 7"
    private static void revokeRefusesGivers() {
        refuses("3: giver too small", USERS_TOO_SMALL, (x, giver) -> x.revoke(giver, 1, 0));
        refuses("3: giver too large", USERS_TOO_LARGE, (x, giver) -> x.revoke(giver, 1, 0));
        takes("3: giver", 0, 7, (x, giver) -> x.revoke(giver, 1, 0));
        due("3: least giver", some().revoke(0, 1, 0), 4);
        due("3: greatest giver", some().revoke(7, 6, 2), 1);
    }

    private static void revokeRefusesTakers() {
        refuses("3: taker too small", USERS_TOO_SMALL, (x, taker) -> x.revoke(0, taker, 0));
        refuses("3: taker too large", USERS_TOO_LARGE, (x, taker) -> x.revoke(0, taker, 0));
        takes("3: taker", 0, 7, (x, taker) -> x.revoke(1, taker, 0));
        due("3: least taker", some().revoke(2, 1, 0), 1);
        due("3: greatest taker", some().revoke(0, 7, 2), 3);
    }

    // "or privilege is not from 0 to 2"
    private static void revokeRefusesPrivileges() {
        refuses("3: privilege too small", PRIVILEGES_TOO_SMALL, (x, privilege) -> x.revoke(0, 1, privilege));
        refuses("3: privilege too large", PRIVILEGES_TOO_LARGE, (x, privilege) -> x.revoke(0, 1, privilege));
        takes("3: privilege", 0, 2, (x, privilege) -> x.revoke(0, 1, privilege));
    }

    // "Takes back all standing grants ...": also where there are none
    private static void revokeOfNothingIs0() {
        GrantLedger x = some();
        due("3: none, the other way round", x.revoke(1, 0, 0), 0);
        due("3: none, to oneself", x.revoke(1, 1, 0), 0);
        due("3: none, the owner to the owner", x.revoke(0, 0, 2), 0);
        due("3: none of this privilege", x.revoke(0, 1, 1), 0);
        due("3: none any longer", x.revoke(4, 5, 1), 0);
        unchanged("3: none", x, some());
    }

    private static void revokeTakesAllOfThem() {
        GrantLedger x = new GrantLedger();
        for (int time = 0; time < 48; time++) {
            due("3: many", x.grant(0, 1 + time % 2, 0, time % 3 == 0), time);
        }
        due("3: 24 of 48", x.revoke(0, 1, 0), 24);
        due("3: first stands no longer", x.stands(0), 0);
        due("3: last stands", x.stands(47), 1);
        due("3: the other 24", x.revoke(0, 2, 0), 24);
        due("3: none is left", x.revoke(0, 2, 0), 0);
    }

    // "Answers how many grants stand no longer, these and those that fall"
    private static void revokeOfEachOf48() {
        for (int taken = 0; taken < 48; taken++) {
            GrantLedger x = full();
            int gone = 0;
            for (int time = 0; time < 48; time++) {
                gone += goesWith(taken, time) ? 1 : 0;
            }
            due("3: one of 48, " + taken, x.revoke(giverOf(taken), takerOf(taken), privilegeOf(taken)), gone);
            due("3: standing after " + taken, x.standing(), 48 - gone);
            for (int time = 0; time < 48; time++) {
                due("3: after " + taken + ", " + time, x.stands(time), goesWith(taken, time) ? 0 : 1);
            }
        }
    }

    private static boolean goesWith(int taken, int time) {
        boolean leans = taken < 21 && giverOf(time) == takerOf(taken) && privilegeOf(time) == privilegeOf(taken);
        return time == taken || leans;
    }

    private static void promise4() {
        expelRefusesUsers();
        expelOfEachUserOf48();
        expelOfUserWithoutGrantsIs0();
        expelTakesGrantsOfAnyPrivilege();
        expelLetsTheRestOfTheCircleFall();
    }

    // "-1 if user is not from 1 to 7"
    private static void expelRefusesUsers() {
        refuses("4: the owner", new int[] {0}, (x, user) -> x.expel(user));
        refuses("4: user too small", USERS_TOO_SMALL, (x, user) -> x.expel(user));
        refuses("4: user too large", USERS_TOO_LARGE, (x, user) -> x.expel(user));
        takes("4: user", 1, 7, (x, user) -> x.expel(user));
        due("4: least user", some().expel(1), 5);
        due("4: greatest user", some().expel(7), 4);
    }

    // "Takes back all standing grants ... whose giver or taker is the user"
    private static void expelOfEachUserOf48() {
        for (int user = 1; user <= 7; user++) {
            GrantLedger x = full();
            int gone = 0;
            for (int time = 0; time < 48; time++) {
                gone += giverOf(time) == user || takerOf(time) == user ? 1 : 0;
            }
            due("4: of 48, " + user, x.expel(user), gone);
            due("4: standing after " + user, x.standing(), 48 - gone);
            for (int time = 0; time < 48; time++) {
                int stays = giverOf(time) == user || takerOf(time) == user ? 0 : 1;
                due("4: after " + user + ", " + time, x.stands(time), stays);
            }
        }
    }

    private static void expelOfUserWithoutGrantsIs0() {
        GrantLedger x = some();
        due("4: one who has none any longer", x.expel(5), 0);
        unchanged("4: one who has none", x, some());
    }

    // "of any privilege"
    private static void expelTakesGrantsOfAnyPrivilege() {
        for (int privilege = 0; privilege <= 2; privilege++) {
            GrantLedger received = new GrantLedger();
            received.grant(0, 7, privilege, false);
            due("4: received, " + privilege, received.expel(7), 1);
            GrantLedger given = new GrantLedger();
            given.grant(0, 7, privilege, true);
            given.grant(7, 1, privilege, true);
            given.grant(0, 1, privilege, true);
            due("4: given, " + privilege, given.expel(7), 2);
            due("4: standing, " + privilege, given.standing(), 1);
        }
    }

    // "Answers how many grants stand no longer": of the circle only the owner's
    // grant stays, and the seven rows from user 1 up to the one before the user.
    private static void expelLetsTheRestOfTheCircleFall() {
        for (int user = 1; user <= 7; user++) {
            int stay = user == 1 ? 0 : 1 + 7 * (user - 2);
            GrantLedger x = circle(1);
            due("4: circle without " + user, x.expel(user), 48 - stay);
            due("4: before " + user, x.standing(), stay);
        }
    }

    private static void promises5To8() {
        readersRefuse("5: holds", (x, user) -> x.holds(user, 0), (x, privilege) -> x.holds(1, privilege));
        readersRefuse("6: may", (x, user) -> x.may(user, 0), (x, privilege) -> x.may(1, privilege));
        readersRefuse("7: received", (x, user) -> x.received(user, 0), (x, privilege) -> x.received(1, privilege));
        readersRefuse("8: given", (x, user) -> x.given(user, 0), (x, privilege) -> x.given(1, privilege));
        readersRefuseThoughItIsTheOwner();
        readersAtTheLeastAndGreatest();
        ownerHoldsAndMayWithoutGrants();
        countsGoFrom0To48();
    }

    // "-1 if user is not from 0 to 7 or privilege is not from 0 to 2"
    private static void readersRefuse(String what, Call ofUser, Call ofPrivilege) {
        refuses(what + ", user too small", USERS_TOO_SMALL, ofUser);
        refuses(what + ", user too large", USERS_TOO_LARGE, ofUser);
        refuses(what + ", privilege too small", PRIVILEGES_TOO_SMALL, ofPrivilege);
        refuses(what + ", privilege too large", PRIVILEGES_TOO_LARGE, ofPrivilege);
        takes(what + ", user", 0, 7, ofUser);
        takes(what + ", privilege", 0, 2, ofPrivilege);
    }

    private static void readersRefuseThoughItIsTheOwner() {
        for (int privilege : new int[] {MIN, -1, 3, MAX}) {
            GrantLedger x = some();
            due("5: owner, " + privilege, x.holds(0, privilege), -1);
            due("6: owner, " + privilege, x.may(0, privilege), -1);
            due("7: owner, " + privilege, x.received(0, privilege), -1);
            due("8: owner, " + privilege, x.given(0, privilege), -1);
        }
    }

    private static void readersAtTheLeastAndGreatest() {
        GrantLedger x = some();
        due("5: least", x.holds(1, 0), 1);
        due("5: greatest", x.holds(7, 2), 1);
        due("5: greatest user, least privilege", x.holds(7, 0), 1);
        due("5: least user, greatest privilege", x.holds(1, 2), 1);
        due("6: least", x.may(1, 0), 1);
        due("6: greatest", x.may(7, 2), 1);
        due("6: greatest user, least privilege", x.may(7, 0), 0);
        due("6: least user, greatest privilege", x.may(1, 2), 0);
        due("7: least", x.received(1, 0), 2);
        due("7: greatest", x.received(7, 2), 1);
        due("8: least", x.given(0, 0), 1);
        due("8: greatest", x.given(7, 2), 2);
    }

    // "A user HOLDS a privilege if the user is the owner or", "A user may GRANT
    // a privilege if the user is the owner, or"
    private static void ownerHoldsAndMayWithoutGrants() {
        for (int privilege = 0; privilege <= 2; privilege++) {
            GrantLedger x = new GrantLedger();
            due("5: owner without grants", x.holds(0, privilege), 1);
            due("6: owner without grants", x.may(0, privilege), 1);
            due("7: owner receives none", x.received(0, privilege), 0);
            x.grant(0, 1, privilege, true);
            x.revoke(0, 1, privilege);
            due("5: owner after revoke", x.holds(0, privilege), 1);
            due("6: owner after revoke", x.may(0, privilege), 1);
        }
    }

    // "How many grants of the privilege stand whose taker (giver) is the user"
    private static void countsGoFrom0To48() {
        GrantLedger x = new GrantLedger();
        for (int made = 0; made < 48; made++) {
            due("7: received of " + made, x.received(1, 2), made);
            due("8: given of " + made, x.given(0, 2), made);
            x.grant(0, 1, 2, false);
        }
        due("7: received of 48", x.received(1, 2), 48);
        due("8: given of 48", x.given(0, 2), 48);
        due("5: holds of 48", x.holds(1, 2), 1);
        due("6: may of 48 without option", x.may(1, 2), 0);
        x.revoke(0, 1, 2);
        due("7: received of none", x.received(1, 2), 0);
        due("8: given of none", x.given(0, 2), 0);
    }

    private static void promise9() {
        timesThatNeverWere();
        firstAndLastTime();
        timesOfRefusedGrants();
        timesThatStandNoLonger();
    }

    // "else 0 (also if there was never such a one)"
    private static void timesThatNeverWere() {
        int[] never = {-1, -2, -48, -256, MIN, MIN + 1, MIN + 47, 48, 49, 64, 256, 257, 303, 512, 65536, 65583, MAX};
        GrantLedger none = new GrantLedger();
        GrantLedger all = full();
        for (int time : never) {
            due("9: never, empty, " + time, none.stands(time), 0);
            due("9: never, full, " + time, all.stands(time), 0);
        }
        due("9: never, empty, 0", none.stands(0), 0);
        unchanged("9: never", all, full());
    }

    // "1 if the grant with the time stands"
    private static void firstAndLastTime() {
        GrantLedger x = full();
        due("9: before the first", x.stands(-1), 0);
        due("9: the first", x.stands(0), 1);
        due("9: the last", x.stands(47), 1);
        due("9: after the last", x.stands(48), 0);
    }

    private static void timesOfRefusedGrants() {
        GrantLedger x = new GrantLedger();
        due("9: refused with -2", x.grant(1, 2, 0, true), -2);
        due("9: refused with -1", x.grant(0, 0, 0, true), -1);
        due("9: 0 is still to come", x.stands(0), 0);
        due("9: the first", x.grant(0, 1, 0, true), 0);
        due("9: 0 stands", x.stands(0), 1);
        due("9: 1 is still to come", x.stands(1), 0);
    }

    private static void timesThatStandNoLonger() {
        GrantLedger x = some();
        int[] stands = {1, 1, 1, 1, 0, 0, 1, 1, 1, 1, 1, 0};
        for (int time = 0; time < stands.length; time++) {
            due("9: some, " + time, x.stands(time), stands[time]);
        }
    }

    private static void promise10() {
        reachRefusesGivers();
        reachRefusesTakers();
        reachRefusesPrivileges();
        reachOfNothingIs0();
        reachOfEachOf48IsAsRevokes();
        reachChangesNothing();
    }

    // "-1 as in revoke"
    private static void reachRefusesGivers() {
        refuses("10: giver too small", USERS_TOO_SMALL, (x, giver) -> x.reach(giver, 1, 0));
        refuses("10: giver too large", USERS_TOO_LARGE, (x, giver) -> x.reach(giver, 1, 0));
        takes("10: giver", 0, 7, (x, giver) -> x.reach(giver, 1, 0));
        due("10: least giver", some().reach(0, 1, 0), 4);
        due("10: greatest giver", some().reach(7, 6, 2), 1);
    }

    private static void reachRefusesTakers() {
        refuses("10: taker too small", USERS_TOO_SMALL, (x, taker) -> x.reach(0, taker, 0));
        refuses("10: taker too large", USERS_TOO_LARGE, (x, taker) -> x.reach(0, taker, 0));
        takes("10: taker", 0, 7, (x, taker) -> x.reach(1, taker, 0));
        due("10: least taker", some().reach(2, 1, 0), 1);
        due("10: greatest taker", some().reach(0, 7, 2), 3);
    }

    private static void reachRefusesPrivileges() {
        refuses("10: privilege too small", PRIVILEGES_TOO_SMALL, (x, privilege) -> x.reach(0, 1, privilege));
        refuses("10: privilege too large", PRIVILEGES_TOO_LARGE, (x, privilege) -> x.reach(0, 1, privilege));
        takes("10: privilege", 0, 2, (x, privilege) -> x.reach(0, 1, privilege));
    }

    private static void reachOfNothingIs0() {
        GrantLedger x = some();
        due("10: none, the other way round", x.reach(1, 0, 0), 0);
        due("10: none, to oneself", x.reach(1, 1, 0), 0);
        due("10: none, the owner to the owner", x.reach(0, 0, 2), 0);
        due("10: none of this privilege", x.reach(0, 1, 1), 0);
        due("10: none any longer", x.reach(4, 5, 1), 0);
    }

    // "How many grants of the privilege would stand no longer"
    private static void reachOfEachOf48IsAsRevokes() {
        GrantLedger x = full();
        for (int taken = 0; taken < 48; taken++) {
            int gone = 0;
            for (int time = 0; time < 48; time++) {
                gone += goesWith(taken, time) ? 1 : 0;
            }
            due("10: one of 48, " + taken, x.reach(giverOf(taken), takerOf(taken), privilegeOf(taken)), gone);
        }
        for (int privilege = 0; privilege <= 2; privilege++) {
            due("10: all 48 of " + privilege, circle(privilege).reach(0, 1, privilege), 48);
        }
    }

    // "Changes nothing."
    private static void reachChangesNothing() {
        GrantLedger x = some();
        for (int user = 1; user <= 7; user++) {
            for (int privilege = 0; privilege <= 2; privilege++) {
                x.reach(0, user, privilege);
                x.reach(user, 1, privilege);
            }
        }
        unchanged("10: some", x, some());
        GrantLedger y = circle(2);
        due("10: all 48", y.reach(0, 1, 2), 48);
        unchanged("10: all 48", y, circle(2));
    }

    // "How many grants stand."
    private static void promise11() {
        GrantLedger x = new GrantLedger();
        for (int time = 0; time < 48; time++) {
            due("11: of " + time, x.standing(), time);
            make(x, time);
        }
        due("11: of 48", x.standing(), 48);
        due("11: refused", x.grant(0, 1, 0, true), -1);
        due("11: still of 48", x.standing(), 48);
        int left = 48;
        for (int user = 1; user <= 7; user++) {
            left -= x.expel(user);
            due("11: without " + user, x.standing(), left);
        }
        due("11: of none", x.standing(), 0);
    }

    private static void promise12() {
        wrongInputsComeBeforeTheMissingRight();
        fullLedgerComesBeforeTheMissingRight();
        wrongInputsWhere48Stand();
    }

    // "grant: -1 is tested before -2"
    private static void wrongInputsComeBeforeTheMissingRight() {
        GrantLedger x = some();
        due("12: without right", x.grant(6, 1, 0, true), -2);
        due("12: taker too small", x.grant(6, -1, 0, true), -1);
        due("12: taker too large", x.grant(6, 8, 0, true), -1);
        due("12: giver too small", x.grant(-1, 1, 0, true), -1);
        due("12: giver too large", x.grant(8, 1, 0, true), -1);
        due("12: the same", x.grant(6, 6, 0, true), -1);
        due("12: the owner as taker", x.grant(6, 0, 0, true), -1);
        due("12: privilege too small", x.grant(6, 1, -1, true), -1);
        due("12: privilege too large", x.grant(6, 1, 3, true), -1);
        unchanged("12: wrong input and no right", x, some());
    }

    // "(also where 48 grants stand)"
    private static void fullLedgerComesBeforeTheMissingRight() {
        GrantLedger x = new GrantLedger();
        GrantLedger twin = new GrantLedger();
        for (int time = 0; time < 47; time++) {
            x.grant(0, 1, 0, true);
            twin.grant(0, 1, 0, true);
        }
        due("12: with 47 and no right", x.grant(2, 1, 0, true), -2);
        due("12: the 48th", x.grant(0, 1, 0, true), 47);
        due("12: with 48 and no right", x.grant(2, 1, 0, true), -1);
        due("12: with 48, another privilege", x.grant(1, 2, 2, true), -1);
        due("12: with 48 and the right", x.grant(1, 2, 0, true), -1);
        twin.grant(0, 1, 0, true);
        unchanged("12: with 48", x, twin);
    }

    private static void wrongInputsWhere48Stand() {
        GrantLedger x = full();
        due("12: with 48, giver", x.grant(8, 1, 0, true), -1);
        due("12: with 48, taker", x.grant(0, -1, 0, true), -1);
        due("12: with 48, the same", x.grant(7, 7, 0, true), -1);
        due("12: with 48, the owner", x.grant(7, 0, 0, true), -1);
        due("12: with 48, privilege", x.grant(0, 1, 3, true), -1);
        unchanged("12: with 48, wrong inputs", x, full());
    }
}
