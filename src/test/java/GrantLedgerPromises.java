// One method or more for each promise of the document: ordinary inputs, the
// edges that the document names, and wrong inputs.
public final class GrantLedgerPromises {
    private static final int[] NO_USERS = {-1, 8, 9, 64, -8, Integer.MIN_VALUE, Integer.MAX_VALUE};
    private static final int[] NO_PRIVILEGES = {-1, 3, 4, 32, -3, Integer.MIN_VALUE, Integer.MAX_VALUE};

    private static int wrong = 0;

    private static void due(String what, int got, int want) {
        if (got != want) {
            wrong++;
            System.out.println(what + " answered " + got + ", due is " + want);
        }
    }

    public static void main(String[] args) {
        newObjectHasNoGrant();
        objectsAreApart();
        grantAnswersTimesInOrder();
        grantRefusesWrongInputs();
        grantRefusesGiverWithoutRight();
        refusedGrantChangesNothing();
        grantNeedsOptionOfTheSamePrivilege();
        revokeTakesAllFromGiverToTaker();
        revokeLetsGrantsFallInChain();
        revokeKeepsGrantsWithAnotherEarlierRight();
        revokeDropsGrantsWhoseOtherRightIsLater();
        revokeDropsCircles();
        revokeKeepsToThePrivilege();
        revokeIgnoresGrantsWithoutOptionAsRight();
        revokeOfNothing();
        revokeRefusesWrongInputs();
        fallenGrantsNeverStandAgain();
        expelTakesGivenAndReceived();
        expelLetsOthersFall();
        expelOfUserWithNothing();
        expelRefusesWrongInputs();
        holdsForOwnerAndTakers();
        mayForOwnerAndTakersWithOption();
        receivedCounts();
        givenCounts();
        readersRefuseWrongInputs();
        standsByTime();
        standsLateTimes();
        reachForetellsRevoke();
        reachChangesNothing();
        reachRefusesWrongInputs();
        standingCounts();
        fortyEightStandAtMost();
        wrongInputBeforeMissingRight();
        fullLedgerFallsAsOne();
        System.out.println(wrong == 0 ? "all answers are as due" : wrong + " answers are not as due");
        if (wrong != 0) {
            System.exit(1);
        }
    }

    // Promise 1

    private static void newObjectHasNoGrant() {
        GrantLedger x = new GrantLedger();
        due("1: standing", x.standing(), 0);
        for (int user = 0; user < 8; user++) {
            for (int privilege = 0; privilege < 3; privilege++) {
                String at = " of " + user + ", " + privilege;
                due("1: holds" + at, x.holds(user, privilege), user == 0 ? 1 : 0);
                due("1: may" + at, x.may(user, privilege), user == 0 ? 1 : 0);
                due("1: received" + at, x.received(user, privilege), 0);
                due("1: given" + at, x.given(user, privilege), 0);
            }
        }
        due("1: stands(0)", x.stands(0), 0);
        due("1: first time", x.grant(0, 1, 0, false), 0);
    }

    private static void objectsAreApart() {
        GrantLedger x = new GrantLedger();
        due("1: grant in x", x.grant(0, 1, 0, true), 0);
        GrantLedger y = new GrantLedger();
        due("1: standing in y", y.standing(), 0);
        due("1: may in y", y.may(1, 0), 0);
        due("1: grant in y", y.grant(0, 2, 1, true), 0);
        due("1: standing in x", x.standing(), 1);
        due("1: holds in x", x.holds(2, 1), 0);
    }

    // Promise 2

    private static void grantAnswersTimesInOrder() {
        GrantLedger x = new GrantLedger();
        due("2: owner", x.grant(0, 1, 0, true), 0);
        due("2: taker with option", x.grant(1, 7, 0, false), 1);
        due("2: the same again", x.grant(1, 7, 0, false), 2);
        due("2: greatest privilege", x.grant(0, 7, 2, true), 3);
        due("2: greatest user gives", x.grant(7, 6, 2, false), 4);
        due("2: taker without option gives", x.grant(6, 7, 2, false), -2);
        due("2: revoke", x.revoke(1, 7, 0), 2);
        due("2: times are not used again", x.grant(1, 7, 0, false), 5);
        due("2: standing", x.standing(), 4);
    }

    private static void grantRefusesWrongInputs() {
        GrantLedger x = new GrantLedger();
        x.grant(0, 1, 0, true);
        for (int no : NO_USERS) {
            due("2: giver " + no, x.grant(no, 2, 0, true), -1);
            due("2: taker " + no, x.grant(0, no, 0, true), -1);
            due("2: both " + no, x.grant(no, no, 0, true), -1);
        }
        for (int no : NO_PRIVILEGES) {
            due("2: privilege " + no, x.grant(0, 2, no, true), -1);
        }
        due("2: to oneself", x.grant(1, 1, 0, true), -1);
        due("2: owner to oneself", x.grant(0, 0, 0, true), -1);
        due("2: to the owner", x.grant(1, 0, 0, true), -1);
        due("2: standing after refusals", x.standing(), 1);
        due("2: time after refusals", x.grant(0, 2, 0, true), 1);
    }

    private static void grantRefusesGiverWithoutRight() {
        GrantLedger x = new GrantLedger();
        for (int giver = 1; giver < 8; giver++) {
            for (int privilege = 0; privilege < 3; privilege++) {
                due("2: no right " + giver, x.grant(giver, giver == 1 ? 2 : 1, privilege, true), -2);
            }
        }
        due("2: standing", x.standing(), 0);
        due("2: time after -2", x.grant(0, 1, 0, true), 0);
        due("2: right has come", x.grant(1, 2, 0, true), 1);
        due("2: revoke", x.revoke(0, 1, 0), 2);
        due("2: right has gone", x.grant(1, 2, 0, true), -2);
    }

    private static void refusedGrantChangesNothing() {
        GrantLedger x = new GrantLedger();
        x.grant(0, 1, 0, false);
        due("2: no option", x.grant(1, 2, 0, true), -2);
        due("2: holds of refused taker", x.holds(2, 0), 0);
        due("2: given of refused giver", x.given(1, 0), 0);
        due("2: owner as taker", x.grant(1, 0, 0, true), -1);
        due("2: received of owner", x.received(0, 0), 0);
        due("2: given of giver", x.given(1, 0), 0);
        due("2: stands(1)", x.stands(1), 0);
        due("2: next time", x.grant(0, 2, 0, false), 1);
    }

    private static void grantNeedsOptionOfTheSamePrivilege() {
        GrantLedger x = new GrantLedger();
        x.grant(0, 1, 0, true);
        x.grant(0, 1, 1, false);
        due("2: with option", x.grant(1, 2, 0, false), 2);
        due("2: without option", x.grant(1, 2, 1, false), -2);
        due("2: not held", x.grant(1, 2, 2, false), -2);
        due("2: option added", x.grant(0, 1, 1, true), 3);
        due("2: one with option is enough", x.grant(1, 2, 1, false), 4);
        due("2: one without takes nothing away", x.grant(0, 1, 1, false), 5);
        due("2: still enough", x.grant(1, 3, 1, false), 6);
    }

    // Promise 3 and STANDING

    private static void revokeTakesAllFromGiverToTaker() {
        GrantLedger x = new GrantLedger();
        x.grant(0, 1, 0, true);
        x.grant(0, 1, 0, false);
        x.grant(0, 2, 0, true);
        x.grant(0, 1, 0, true);
        x.grant(2, 1, 0, true);
        x.grant(0, 1, 1, true);
        due("3: three of one pair", x.revoke(0, 1, 0), 3);
        due("3: again", x.revoke(0, 1, 0), 0);
        due("3: other taker stays", x.stands(2), 1);
        due("3: other giver stays", x.stands(4), 1);
        due("3: other privilege stays", x.stands(5), 1);
        due("3: standing", x.standing(), 3);
        due("3: the other way round", x.revoke(1, 2, 0), 0);
        due("3: not the owner", x.revoke(2, 1, 0), 1);
        due("3: last", x.revoke(0, 2, 0), 1);
    }

    private static void revokeLetsGrantsFallInChain() {
        GrantLedger x = new GrantLedger();
        x.grant(0, 1, 2, true);
        for (int user = 1; user < 7; user++) {
            x.grant(user, user + 1, 2, true);
        }
        due("3: standing", x.standing(), 7);
        due("3: end of the chain", x.revoke(6, 7, 2), 1);
        due("3: middle of the chain", x.revoke(3, 4, 2), 3);
        due("3: before the break", x.may(3, 2), 1);
        due("3: after the break", x.holds(4, 2), 0);
        due("3: start of the chain", x.revoke(0, 1, 2), 3);
        due("3: none stands", x.standing(), 0);
    }

    private static void revokeKeepsGrantsWithAnotherEarlierRight() {
        GrantLedger x = new GrantLedger();
        x.grant(0, 1, 0, true);
        x.grant(0, 2, 0, true);
        x.grant(1, 3, 0, true);
        x.grant(2, 3, 0, true);
        x.grant(3, 4, 0, false);
        due("3: one of two rights", x.revoke(0, 1, 0), 2);
        due("3: stays on the other", x.stands(4), 1);
        due("3: the other too", x.revoke(2, 3, 0), 2);
        due("3: now fallen", x.stands(4), 0);
        due("3: standing", x.standing(), 1);
    }

    private static void revokeDropsGrantsWhoseOtherRightIsLater() {
        GrantLedger x = new GrantLedger();
        x.grant(0, 1, 0, true);
        x.grant(1, 2, 0, false);
        x.grant(0, 3, 0, true);
        x.grant(3, 1, 0, true);
        x.grant(1, 4, 0, false);
        due("3: early right taken", x.revoke(0, 1, 0), 2);
        due("3: given before the later right", x.stands(1), 0);
        due("3: given after the later right", x.stands(4), 1);
        due("3: the later right stands", x.may(1, 0), 1);
        due("3: standing", x.standing(), 3);
    }

    private static void revokeDropsCircles() {
        GrantLedger x = new GrantLedger();
        x.grant(0, 1, 1, true);
        x.grant(1, 2, 1, true);
        x.grant(2, 3, 1, true);
        x.grant(3, 1, 1, true);
        x.grant(1, 2, 1, true);
        x.grant(0, 3, 0, true);
        due("3: circle", x.revoke(0, 1, 1), 5);
        due("3: may after circle", x.may(2, 1), 0);
        due("3: standing", x.standing(), 1);
    }

    private static void revokeKeepsToThePrivilege() {
        GrantLedger x = new GrantLedger();
        x.grant(0, 1, 0, true);
        x.grant(0, 1, 1, true);
        x.grant(0, 1, 2, true);
        x.grant(1, 2, 0, true);
        x.grant(1, 2, 1, true);
        x.grant(1, 2, 2, true);
        due("3: one privilege of three", x.revoke(0, 1, 1), 2);
        due("3: 0 stays", x.stands(3), 1);
        due("3: 1 falls", x.stands(4), 0);
        due("3: 2 stays", x.stands(5), 1);
        due("3: another privilege is no right", x.may(1, 1), 0);
    }

    private static void revokeIgnoresGrantsWithoutOptionAsRight() {
        GrantLedger x = new GrantLedger();
        x.grant(0, 1, 0, false);
        x.grant(0, 2, 0, true);
        x.grant(2, 1, 0, true);
        x.grant(1, 3, 0, false);
        due("3: the option goes", x.revoke(2, 1, 0), 2);
        due("3: still held", x.holds(1, 0), 1);
        due("3: may no longer", x.may(1, 0), 0);
        due("3: what was given", x.stands(3), 0);
    }

    private static void revokeOfNothing() {
        GrantLedger x = new GrantLedger();
        x.grant(0, 1, 0, true);
        due("3: owner as taker", x.revoke(1, 0, 0), 0);
        due("3: the same user", x.revoke(1, 1, 0), 0);
        due("3: the owner twice", x.revoke(0, 0, 0), 0);
        due("3: no such grant", x.revoke(6, 7, 2), 0);
        due("3: standing", x.standing(), 1);
    }

    private static void revokeRefusesWrongInputs() {
        GrantLedger x = new GrantLedger();
        x.grant(0, 1, 0, true);
        for (int no : NO_USERS) {
            due("3: giver " + no, x.revoke(no, 1, 0), -1);
            due("3: taker " + no, x.revoke(0, no, 0), -1);
        }
        for (int no : NO_PRIVILEGES) {
            due("3: privilege " + no, x.revoke(0, 1, no), -1);
        }
        due("3: standing", x.standing(), 1);
    }

    private static void fallenGrantsNeverStandAgain() {
        GrantLedger x = new GrantLedger();
        x.grant(0, 1, 0, true);
        x.grant(1, 2, 0, true);
        due("3: both go", x.revoke(0, 1, 0), 2);
        due("3: the same grant anew", x.grant(0, 1, 0, true), 2);
        due("3: taken back stays away", x.stands(0), 0);
        due("3: fallen stays away", x.stands(1), 0);
        due("3: holds of the fallen", x.holds(2, 0), 0);
        due("3: standing", x.standing(), 1);
    }

    // Promise 4

    private static void expelTakesGivenAndReceived() {
        GrantLedger x = new GrantLedger();
        x.grant(0, 7, 0, true);
        x.grant(0, 7, 1, false);
        x.grant(7, 1, 0, false);
        x.grant(0, 1, 2, true);
        x.grant(1, 7, 2, false);
        x.grant(0, 1, 0, false);
        due("4: greatest user", x.expel(7), 4);
        due("4: given 0", x.given(7, 0), 0);
        due("4: received 0", x.received(7, 0), 0);
        due("4: received 1", x.received(7, 1), 0);
        due("4: received 2", x.received(7, 2), 0);
        due("4: others stay", x.standing(), 2);
        due("4: time 3", x.stands(3), 1);
        due("4: time 5", x.stands(5), 1);
        due("4: again", x.expel(7), 0);
        due("4: may come back", x.grant(0, 7, 0, true), 6);
    }

    private static void expelLetsOthersFall() {
        GrantLedger x = new GrantLedger();
        x.grant(0, 1, 0, true);
        x.grant(1, 2, 0, true);
        x.grant(2, 3, 0, true);
        x.grant(0, 3, 0, true);
        x.grant(3, 4, 0, false);
        x.grant(0, 1, 1, true);
        x.grant(1, 2, 1, true);
        x.grant(2, 3, 1, false);
        due("4: two given, two received, two fallen", x.expel(1), 6);
        due("4: standing", x.standing(), 2);
        due("4: other right holds", x.stands(4), 1);
        due("4: fallen at one remove", x.stands(7), 0);
    }

    private static void expelOfUserWithNothing() {
        GrantLedger x = new GrantLedger();
        due("4: none stands", x.expel(1), 0);
        x.grant(0, 1, 0, true);
        due("4: not concerned", x.expel(2), 0);
        due("4: standing", x.standing(), 1);
    }

    private static void expelRefusesWrongInputs() {
        GrantLedger x = new GrantLedger();
        x.grant(0, 1, 0, true);
        due("4: owner", x.expel(0), -1);
        for (int no : NO_USERS) {
            due("4: user " + no, x.expel(no), -1);
        }
        due("4: standing", x.standing(), 1);
    }

    // Promises 5 to 8

    private static void holdsForOwnerAndTakers() {
        GrantLedger x = new GrantLedger();
        x.grant(0, 1, 0, true);
        x.grant(0, 7, 2, false);
        due("5: owner", x.holds(0, 2), 1);
        due("5: with option", x.holds(1, 0), 1);
        due("5: without option", x.holds(7, 2), 1);
        due("5: another privilege", x.holds(1, 2), 0);
        due("5: another user", x.holds(2, 0), 0);
        x.revoke(0, 7, 2);
        due("5: after revoke", x.holds(7, 2), 0);
    }

    private static void mayForOwnerAndTakersWithOption() {
        GrantLedger x = new GrantLedger();
        x.grant(0, 1, 0, true);
        x.grant(0, 7, 2, false);
        due("6: owner", x.may(0, 1), 1);
        due("6: with option", x.may(1, 0), 1);
        due("6: without option", x.may(7, 2), 0);
        due("6: another privilege", x.may(1, 1), 0);
        due("6: another user", x.may(2, 0), 0);
        x.grant(0, 7, 2, true);
        due("6: one with, one without", x.may(7, 2), 1);
        x.revoke(0, 1, 0);
        due("6: after revoke", x.may(1, 0), 0);
    }

    private static void receivedCounts() {
        GrantLedger x = new GrantLedger();
        x.grant(0, 1, 0, true);
        x.grant(0, 2, 0, true);
        x.grant(1, 2, 0, false);
        x.grant(1, 2, 0, true);
        x.grant(0, 2, 1, true);
        due("7: from two givers", x.received(2, 0), 3);
        due("7: another privilege", x.received(2, 1), 1);
        due("7: not what was given", x.received(1, 0), 1);
        due("7: owner", x.received(0, 0), 0);
        x.revoke(0, 1, 0);
        due("7: after a fall", x.received(2, 0), 1);
    }

    private static void givenCounts() {
        GrantLedger x = new GrantLedger();
        x.grant(0, 1, 0, true);
        x.grant(0, 2, 0, true);
        x.grant(1, 2, 0, false);
        x.grant(1, 3, 0, true);
        x.grant(0, 2, 1, true);
        due("8: owner", x.given(0, 0), 2);
        due("8: owner, another privilege", x.given(0, 1), 1);
        due("8: to two takers", x.given(1, 0), 2);
        due("8: not what was received", x.given(2, 0), 0);
        x.revoke(1, 3, 0);
        due("8: after revoke", x.given(1, 0), 1);
        x.revoke(0, 1, 0);
        due("8: after a fall", x.given(1, 0), 0);
    }

    private static void readersRefuseWrongInputs() {
        GrantLedger x = new GrantLedger();
        x.grant(0, 1, 0, true);
        for (int no : NO_USERS) {
            due("5: user " + no, x.holds(no, 0), -1);
            due("6: user " + no, x.may(no, 0), -1);
            due("7: user " + no, x.received(no, 0), -1);
            due("8: user " + no, x.given(no, 0), -1);
        }
        for (int no : NO_PRIVILEGES) {
            for (int user = 0; user < 2; user++) {
                due("5: privilege " + no, x.holds(user, no), -1);
                due("6: privilege " + no, x.may(user, no), -1);
                due("7: privilege " + no, x.received(user, no), -1);
                due("8: privilege " + no, x.given(user, no), -1);
            }
        }
    }

    // Promise 9

    private static void standsByTime() {
        GrantLedger x = new GrantLedger();
        x.grant(0, 1, 0, true);
        x.grant(0, 2, 0, true);
        x.grant(0, 3, 0, true);
        x.revoke(0, 2, 0);
        due("9: before the gap", x.stands(0), 1);
        due("9: the gap", x.stands(1), 0);
        due("9: after the gap", x.stands(2), 1);
        due("9: not made yet", x.stands(3), 0);
        for (int time : new int[] {-1, 48, 511, 512, Integer.MIN_VALUE, Integer.MAX_VALUE}) {
            due("9: stands(" + time + ")", x.stands(time), 0);
        }
        x.expel(1);
        x.expel(3);
        due("9: all gone, 0", x.stands(0), 0);
        due("9: all gone, 2", x.stands(2), 0);
    }

    private static void standsLateTimes() {
        GrantLedger x = new GrantLedger();
        for (int time = 0; time < 250; time++) {
            due("9: late time", x.grant(0, 1, 0, true), time);
            due("9: late revoke", x.revoke(0, 1, 0), 1);
        }
        due("9: last grant", x.grant(0, 2, 0, true), 250);
        due("9: last stands", x.stands(250), 1);
        due("9: the one before", x.stands(249), 0);
        due("9: same slot, earlier", x.stands(0), 0);
        due("9: the next", x.stands(251), 0);
    }

    // Promise 10

    private static void reachForetellsRevoke() {
        GrantLedger x = new GrantLedger();
        x.grant(0, 1, 0, true);
        x.grant(1, 2, 0, true);
        x.grant(2, 3, 0, true);
        x.grant(0, 3, 0, true);
        x.grant(3, 4, 0, false);
        x.grant(0, 1, 1, true);
        x.grant(1, 2, 1, true);
        due("10: chain of three", x.reach(0, 1, 0), 3);
        due("10: of the other privilege", x.reach(0, 1, 1), 2);
        due("10: one with another right", x.reach(2, 3, 0), 1);
        due("10: the later right carries the last", x.reach(0, 3, 0), 1);
        due("10: no such grant", x.reach(4, 5, 0), 0);
        due("10: owner as taker", x.reach(1, 0, 0), 0);
        due("10: the same user", x.reach(1, 1, 0), 0);
        due("10: as foretold", x.revoke(0, 1, 0), 3);
        due("10: nothing left of it", x.reach(0, 1, 0), 0);
        due("10: now the last leans on it", x.reach(0, 3, 0), 2);
    }

    private static void reachChangesNothing() {
        GrantLedger x = new GrantLedger();
        x.grant(0, 1, 0, true);
        x.grant(1, 2, 0, true);
        due("10: first", x.reach(0, 1, 0), 2);
        due("10: second", x.reach(0, 1, 0), 2);
        due("10: standing", x.standing(), 2);
        due("10: stands(0)", x.stands(0), 1);
        due("10: stands(1)", x.stands(1), 1);
        due("10: may", x.may(2, 0), 1);
        due("10: next time", x.grant(2, 3, 0, false), 2);
        due("10: expel another", x.expel(3), 1);
    }

    private static void reachRefusesWrongInputs() {
        GrantLedger x = new GrantLedger();
        x.grant(0, 1, 0, true);
        for (int no : NO_USERS) {
            due("10: giver " + no, x.reach(no, 1, 0), -1);
            due("10: taker " + no, x.reach(0, no, 0), -1);
        }
        for (int no : NO_PRIVILEGES) {
            due("10: privilege " + no, x.reach(0, 1, no), -1);
        }
    }

    // Promise 11

    private static void standingCounts() {
        GrantLedger x = new GrantLedger();
        x.grant(0, 1, 0, true);
        x.grant(0, 1, 0, true);
        x.grant(1, 2, 0, false);
        x.grant(0, 2, 1, false);
        due("11: all privileges", x.standing(), 4);
        x.grant(2, 3, 1, false);
        x.grant(0, 0, 0, false);
        due("11: refused ones do not count", x.standing(), 4);
        x.expel(2);
        due("11: after expel", x.standing(), 2);
        x.revoke(0, 1, 0);
        due("11: after revoke", x.standing(), 0);
    }

    // Promise 12 and the limit of 48

    private static GrantLedger full() {
        GrantLedger x = new GrantLedger();
        for (int time = 0; time < 48; time++) {
            due("12: filling", x.grant(0, 1 + time % 6, time / 6 % 3, time % 2 == 0), time);
        }
        return x;
    }

    private static void fortyEightStandAtMost() {
        GrantLedger x = full();
        due("12: standing", x.standing(), 48);
        due("12: the 49th", x.grant(0, 1, 0, true), -1);
        due("12: unchanged", x.standing(), 48);
        due("12: last stands", x.stands(47), 1);
        due("12: refused does not", x.stands(48), 0);
        due("12: make room", x.expel(6), 8);
        for (int time = 48; time < 56; time++) {
            due("12: room again", x.grant(0, 7, 0, false), time);
        }
        due("12: full again", x.grant(0, 7, 0, false), -1);
        due("12: standing", x.standing(), 48);
    }

    private static void wrongInputBeforeMissingRight() {
        GrantLedger x = full();
        due("12: full and without right", x.grant(7, 1, 0, true), -1);
        due("12: make room", x.revoke(0, 6, 0), 3);
        due("12: without right", x.grant(7, 1, 0, true), -2);
        due("12: without right, to the owner", x.grant(7, 0, 0, true), -1);
        due("12: without right, to oneself", x.grant(7, 7, 0, true), -1);
        due("12: without right, no taker", x.grant(7, 8, 0, true), -1);
        due("12: without right, no privilege", x.grant(7, 1, 3, true), -1);
    }

    private static void fullLedgerFallsAsOne() {
        GrantLedger x = new GrantLedger();
        x.grant(0, 1, 0, true);
        for (int time = 1; time < 48; time++) {
            int giver = 1 + (time - 1) % 7;
            due("12: round", x.grant(giver, 1 + time % 7, 0, true), time);
        }
        due("10: all 48", x.reach(0, 1, 0), 48);
        due("3: all 48", x.revoke(0, 1, 0), 48);
        due("11: none stands", x.standing(), 0);
        due("2: the next time", x.grant(0, 1, 0, true), 48);
    }
}
