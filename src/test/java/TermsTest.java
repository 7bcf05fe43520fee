/** The boundary cases that the document names before its promises: one method for each sentence. */
public final class TermsTest {
    public static void main(String[] args) {
        itIsATreeEverywhereAllTheTime();
        anObjectIsUsedForAtMost512Calls();
        theRootNeverHasAParent();
        everyOtherNodeHasAParentOrNone();
        aLabelIsAnIntAnd0AtTheStart();
        replicasAre0To2();
        atMost60ChangesAreMadeInAll();
        aChangeIsKnownAtItsOriginAtOnce();
        aStampsNumberIs1IfNoneIsKnown();
        aStampsNumberIsOneMoreThanTheGreatestKnown();
        ofEqualNumbersTheLesserOriginIsEarlier();
        changesAreNumberedFrom1InTheirOrder();
        aMoveIsOfNodes1To9AndANamingOf0To9();
        changesAreCarriedOutFromTheStartOn();
        aMoveToTheNodeItselfIsSkipped();
        aMoveBelowTheNodeIsSkipped();
        aMoveThatClosesNoCircleIsNotSkipped();
        anotherReplicaNumberIsRefused();
        anotherReplicaNumberChangesNothing();
        Answers.end();
    }

    private static void due(String call, int got, int want) {
        Answers.due(call, got, want);
    }

    // "a tree whose nodes are moved at three places at once, and which is a tree everywhere all
    // the time.": looking takes calls, so each look is at an object of its own.
    private static void itIsATreeEverywhereAllTheTime() {
        for (int calls = 0; calls <= 240; calls++) {
            for (int r = 0; r < 3; r++) {
                dueTree("after " + calls + " calls", movedAtThreePlaces(calls), r);
            }
        }
        MoveTree x = movedAtThreePlaces(240);
        due("alike(0, 1) once all is told", x.alike(0, 1), 1);
        due("alike(0, 2) once all is told", x.alike(0, 2), 1);
    }

    /** Moves in circles at the three replicas in turn, each followed by a deliver; 240 calls tell all. */
    private static MoveTree movedAtThreePlaces(int calls) {
        MoveTree x = new MoveTree();
        for (int i = 0; i < calls; i++) {
            int turn = i / 2;
            int from = turn % 3;
            if (i % 2 == 0) {
                x.move(from, 1 + turn % 9, 1 + (turn + 1 + turn / 9) % 9);
            } else {
                x.deliver(from, (from + 1 + turn / 3 % 2) % 3);
            }
        }
        return x;
    }

    private static void dueTree(String when, MoveTree x, int r) {
        int withParent = 0;
        int children = 0;
        for (int node = 0; node < 10; node++) {
            int steps = 0;
            for (int at = x.parent(r, node); at != -1 && steps < 10; at = x.parent(r, at)) {
                steps++;
            }
            Answers.holds("the way up from " + node + " at " + r + " ends " + when, steps < 10);
            due("depth(" + r + ", " + node + ") " + when, x.depth(r, node), steps);
            withParent += steps > 0 ? 1 : 0;
            children += x.children(r, node);
        }
        due("the children of all nodes at " + r + " " + when, children, withParent);
    }

    // "An object is used for at most 512 calls after it has been made; what later calls answer
    // is free." Later calls must still end, by LANGUAGE.md.
    private static void anObjectIsUsedForAtMost512Calls() {
        MoveTree x = new MoveTree();
        for (int call = 1; call <= 60; call++) {
            due("move(0, 1, 1), call " + call, x.move(0, 1, 1), 1);
        }
        for (int call = 61; call <= 511; call++) {
            due("skipped(0), call " + call, x.skipped(0), 60);
        }
        due("sync(0, 2), call 512", x.sync(0, 2), 60);
        for (int call = 513; call <= 2000; call++) {
            x.move(call % 3, 1, 2);
            x.deliver(0, 1);
            x.sync(1, 2);
            x.depth(2, 1);
        }
    }

    // "node 0 is the root and never has a PARENT"
    private static void theRootNeverHasAParent() {
        MoveTree x = new MoveTree();
        for (int p = 0; p < 10; p++) {
            due("move(0, 0, " + p + ")", x.move(0, 0, p), -1);
            due("parent(0, 0)", x.parent(0, 0), -1);
        }
        for (int node = 1; node < 10; node++) {
            due("move(0, " + node + ", 0)", x.move(0, node, 0), 0);
        }
        x.name(0, 0, 5);
        x.sync(0, 1);
        due("parent(0, 0) with nine below it", x.parent(0, 0), -1);
        due("parent(1, 0) told", x.parent(1, 0), -1);
        due("depth(1, 0)", x.depth(1, 0), 0);
    }

    // "every other node has a parent (another node) or none; at the start none has."
    private static void everyOtherNodeHasAParentOrNone() {
        MoveTree x = new MoveTree();
        for (int node = 1; node < 10; node++) {
            for (int r = 0; r < 3; r++) {
                due("parent(" + r + ", " + node + ") at the start", x.parent(r, node), -1);
            }
            due("move to itself", x.move(1, node, node), 1);
            due("parent(1, " + node + ") isn't itself", x.parent(1, node), -1);
            int other = node == 9 ? 0 : node + 1;
            due("move(1, " + node + ", " + other + ")", x.move(1, node, other), 0);
            due("parent(1, " + node + ")", x.parent(1, node), other);
        }
    }

    // "Each node has a LABEL (an int, 0 at the start)."
    private static void aLabelIsAnIntAnd0AtTheStart() {
        MoveTree x = new MoveTree();
        int[] labels = {1, -1, Integer.MAX_VALUE, Integer.MIN_VALUE, 0};
        for (int node = 0; node < 10; node++) {
            for (int r = 0; r < 3; r++) {
                due("label(" + r + ", " + node + ") at the start", x.label(r, node), 0);
            }
            for (int label : labels) {
                due("name(1, " + node + ", " + label + ")", x.name(1, node, label), 0);
                due("label(1, " + node + ")", x.label(1, node), label);
            }
        }
    }

    // "REPLICAS are 0, 1 and 2."
    private static void replicasAre0To2() {
        MoveTree x = new MoveTree();
        for (int r = 0; r < 3; r++) {
            due("move(" + r + ", 1, 0)", x.move(r, 1, 0), 0);
            due("name(" + r + ", 1, 9)", x.name(r, 1, 9), 0);
            due("parent(" + r + ", 1)", x.parent(r, 1), 0);
            due("label(" + r + ", 1)", x.label(r, 1), 9);
            due("children(" + r + ", 0)", x.children(r, 0), 1);
            due("depth(" + r + ", 1)", x.depth(r, 1), 1);
            due("skipped(" + r + ")", x.skipped(r), 0);
        }
        for (int from = 0; from < 3; from++) {
            int to = (from + 1) % 3;
            due("alike(" + from + ", " + to + ")", x.alike(from, to), 1);
            due("deliver(" + from + ", " + to + ")", x.deliver(from, to), 0);
        }
        due("sync(0, 1)", x.sync(0, 1), 2);
        due("sync(1, 2)", x.sync(1, 2), 3);
        due("sync(2, 0)", x.sync(2, 0), 3);
    }

    // "A CHANGE is made at one replica, its origin; at most 60 are made in all."
    private static void atMost60ChangesAreMadeInAll() {
        for (int origins = 1; origins <= 3; origins++) {
            MoveTree x = new MoveTree();
            for (int i = 0; i < 60; i++) {
                int r = i % origins;
                due("change " + (i + 1), i % 2 == 0 ? x.move(r, 1, 2) : x.name(r, 3, i), 0);
            }
            for (int r = 0; r < 3; r++) {
                due("move(" + r + ", 1, 5), the 61st", x.move(r, 1, 5), -1);
                due("name(" + r + ", 3, 99), the 61st", x.name(r, 3, 99), -1);
            }
            due("what 0 learns", x.sync(1, 0) + x.sync(2, 0), 60 - 60 / origins);
            due("sync(0, 2)", x.sync(0, 2), origins == 3 ? 40 : 60);
            due("label(2, 3), the latest", x.label(2, 3), 59);
            due("parent(2, 1)", x.parent(2, 1), 2);
        }
    }

    // "a change is known at its origin as soon as it is made."
    private static void aChangeIsKnownAtItsOriginAtOnce() {
        for (int r = 0; r < 3; r++) {
            MoveTree x = new MoveTree();
            x.move(r, 1, 2);
            due("parent(" + r + ", 1)", x.parent(r, 1), 2);
            x.name(r, 1, 8);
            due("label(" + r + ", 1)", x.label(r, 1), 8);
            due("deliver(" + r + ", " + r + ")", x.deliver(r, r), -1);
            due("sync(" + r + ", " + r + ")", x.sync(r, r), 0);
            for (int other = (r + 1) % 3; other != r; other = (other + 1) % 3) {
                due("parent(" + other + ", 1)", x.parent(other, 1), -1);
                due("label(" + other + ", 1)", x.label(other, 1), 0);
                due("sync(" + other + ", " + r + ")", x.sync(other, r), 0);
            }
        }
    }

    // "a number t, which is one more than the greatest stamp number of all changes that its
    // origin knows (1 if none)": what was made elsewhere and isn't known doesn't count.
    private static void aStampsNumberIs1IfNoneIsKnown() {
        MoveTree x = new MoveTree();
        x.name(0, 1, 10);
        x.name(0, 2, 20);
        x.name(2, 1, 12);
        x.name(1, 2, 21);
        x.sync(0, 2);
        x.sync(1, 2);
        due("label(2, 1), 1 at 0 and 1 at 2", x.label(2, 1), 12);
        due("label(2, 2), 2 at 0 and 1 at 1", x.label(2, 2), 20);
    }

    // "one more than the greatest stamp number of all changes that its origin knows"
    private static void aStampsNumberIsOneMoreThanTheGreatestKnown() {
        MoveTree x = new MoveTree();
        for (int i = 1; i <= 4; i++) {
            x.name(2, 9, i);
        }
        x.deliver(2, 0);
        x.deliver(2, 0);
        x.name(0, 9, 30);
        x.sync(2, 0);
        due("label(0, 9), 3 at 0 against 4 at 2", x.label(0, 9), 4);
        x.name(0, 9, 50);
        due("label(0, 9), 5 at 0", x.label(0, 9), 50);
        x.name(2, 9, 51);
        x.sync(2, 0);
        due("label(0, 9), 5 at 0 against 5 at 2", x.label(0, 9), 51);
        x.name(1, 8, 1);
        x.deliver(1, 0);
        x.name(0, 9, 60);
        x.name(2, 9, 61);
        x.name(2, 9, 62);
        x.deliver(2, 0);
        due("label(0, 9), 6 at 0 against 6 at 2", x.label(0, 9), 61);
        x.name(0, 9, 70);
        x.deliver(2, 0);
        due("label(0, 9), 7 at 0 against 7 at 2", x.label(0, 9), 62);
    }

    // "of two stamps the one with the lesser number, of equal numbers that with the lesser
    // origin, is the EARLIER one."
    private static void ofEqualNumbersTheLesserOriginIsEarlier() {
        for (int a = 0; a < 2; a++) {
            for (int b = a + 1; b < 3; b++) {
                MoveTree x = new MoveTree();
                x.name(b, 1, 100 + b);
                x.name(a, 1, 100 + a);
                x.move(b, 2, 5);
                x.move(a, 2, 6);
                x.name(a, 3, 9);
                x.name(a, 4, 9);
                x.name(b, 4, 8);
                x.sync(a, b);
                x.sync(b, a);
                String pair = " of " + a + " and " + b;
                due("label(a, 1)" + pair, x.label(a, 1), 100 + b);
                due("label(b, 1)" + pair, x.label(b, 1), 100 + b);
                due("parent(a, 2)" + pair, x.parent(a, 2), 5);
                due("parent(b, 2)" + pair, x.parent(b, 2), 5);
                due("label(a, 4), the greater number" + pair, x.label(a, 4), 9);
                due("label(b, 4), the greater number" + pair, x.label(b, 4), 9);
                due("alike(a, b)" + pair, x.alike(a, b), 1);
            }
        }
    }

    // "The changes of one origin are numbered from 1 in the order in which they are made."
    private static void changesAreNumberedFrom1InTheirOrder() {
        for (int origin = 0; origin < 3; origin++) {
            MoveTree x = new MoveTree();
            int to = (origin + 1) % 3;
            for (int i = 1; i <= 60; i++) {
                x.name(origin, 1, i);
            }
            for (int i = 1; i <= 60; i++) {
                due("deliver(" + origin + ", " + to + "), number " + i, x.deliver(origin, to), 0);
                due("label(" + to + ", 1), number " + i, x.label(to, 1), i);
            }
            due("deliver(" + origin + ", " + to + "), number 61", x.deliver(origin, to), -1);
        }
    }

    // "A change is a MOVE of a node (1 to 9) to a node p, or a NAMING of a node (0 to 9) with a
    // label."
    private static void aMoveIsOfNodes1To9AndANamingOf0To9() {
        MoveTree x = new MoveTree();
        for (int node = 0; node < 10; node++) {
            due("move(0, " + node + ", 0)", x.move(0, node, 0), node == 0 ? -1 : 0);
            due("name(0, " + node + ", 1)", x.name(0, node, 1), 0);
        }
        due("sync(0, 1)", x.sync(0, 1), 19);
        for (int p = 0; p < 9; p++) {
            due("move(0, 9, " + p + ")", x.move(0, 9, p), 0);
            due("parent(0, 9)", x.parent(0, 9), p);
        }
    }

    // "carrying out all changes that it knows, the earliest first, from the start on": an
    // earlier change that comes late can bring a skipped move back, and can skip one that held.
    private static void changesAreCarriedOutFromTheStartOn() {
        MoveTree x = new MoveTree();
        x.move(1, 1, 2);
        due("move(1, 2, 1)", x.move(1, 2, 1), 1);
        x.name(0, 0, 0);
        x.move(0, 1, 3);
        due("deliver(0, 1) a naming", x.deliver(0, 1), 1);
        due("deliver(0, 1) a move between the two", x.deliver(0, 1), 0);
        due("parent(1, 1)", x.parent(1, 1), 3);
        due("parent(1, 2)", x.parent(1, 2), 1);
        MoveTree y = new MoveTree();
        due("move(1, 4, 5)", y.move(1, 4, 5), 0);
        y.move(0, 5, 4);
        due("deliver(0, 1) an earlier move", y.deliver(0, 1), 1);
        due("parent(1, 4)", y.parent(1, 4), -1);
        due("parent(1, 5)", y.parent(1, 5), 4);
    }

    // "unless p is the node itself"
    private static void aMoveToTheNodeItselfIsSkipped() {
        MoveTree x = new MoveTree();
        for (int node = 1; node < 10; node++) {
            due("move to itself, without a parent", x.move(0, node, node), 1);
            due("parent(0, " + node + ")", x.parent(0, node), -1);
            x.move(0, node, 0);
            due("move to itself, with a parent", x.move(0, node, node), 1);
            due("parent(0, " + node + ") kept", x.parent(0, node), 0);
            due("skipped(0)", x.skipped(0), 2 * node);
        }
    }

    // "or the node is found by going from p to its parent, that one's parent, and so on: then
    // it does nothing (it is SKIPPED)."
    private static void aMoveBelowTheNodeIsSkipped() {
        MoveTree x = new MoveTree();
        for (int node = 1; node < 9; node++) {
            x.move(2, node, node + 1);
        }
        for (int p = 8; p >= 1; p--) {
            due("move(2, 9, " + p + ")", x.move(2, 9, p), 1);
            due("parent(2, 9)", x.parent(2, 9), -1);
        }
        due("move(2, 9, 0)", x.move(2, 9, 0), 0);
        for (int p = 8; p >= 1; p--) {
            due("move(2, 9, " + p + ") below the root", x.move(2, 9, p), 1);
            due("parent(2, 9) kept", x.parent(2, 9), 0);
        }
        due("move(2, 5, 1)", x.move(2, 5, 1), 1);
        due("skipped(2)", x.skipped(2), 17);
    }

    private static void aMoveThatClosesNoCircleIsNotSkipped() {
        MoveTree x = new MoveTree();
        for (int node = 1; node < 9; node++) {
            x.move(2, node, node + 1);
        }
        due("move(2, 1, 2) where it is", x.move(2, 1, 2), 0);
        due("move(2, 1, 9) far up", x.move(2, 1, 9), 0);
        due("move(2, 2, 1) to what was below it", x.move(2, 2, 1), 0);
        due("move(2, 8, 0) to the root", x.move(2, 8, 0), 0);
        due("move(2, 9, 8) to what was below it", x.move(2, 9, 8), 0);
        due("skipped(2)", x.skipped(2), 0);
        due("parent(2, 9)", x.parent(2, 9), 8);
    }

    // "A replica number must be from 0 to 2; another one is refused: the call answers -1
    // (label: 0)"
    private static void anotherReplicaNumberIsRefused() {
        MoveTree x = Twins.inUse();
        for (int bad : Twins.NO_REPLICAS) {
            due("move(" + bad + ", 5, 0)", x.move(bad, 5, 0), -1);
            due("name(" + bad + ", 5, 1)", x.name(bad, 5, 1), -1);
            due("parent(" + bad + ", 1)", x.parent(bad, 1), -1);
            due("label(" + bad + ", 3)", x.label(bad, 3), 0);
            due("children(" + bad + ", 0)", x.children(bad, 0), -1);
            due("depth(" + bad + ", 2)", x.depth(bad, 2), -1);
            due("skipped(" + bad + ")", x.skipped(bad), -1);
            for (int good = 0; good < 3; good++) {
                due("deliver(" + bad + ", " + good + ")", x.deliver(bad, good), -1);
                due("deliver(" + good + ", " + bad + ")", x.deliver(good, bad), -1);
                due("sync(" + bad + ", " + good + ")", x.sync(bad, good), -1);
                due("sync(" + good + ", " + bad + ")", x.sync(good, bad), -1);
                due("alike(" + bad + ", " + good + ")", x.alike(bad, good), -1);
                due("alike(" + good + ", " + bad + ")", x.alike(good, bad), -1);
            }
            due("deliver(" + bad + ", " + bad + ")", x.deliver(bad, bad), -1);
            due("sync(" + bad + ", " + bad + ")", x.sync(bad, bad), -1);
            due("alike(" + bad + ", " + bad + ")", x.alike(bad, bad), -1);
        }
    }

    // "and changes nothing."
    private static void anotherReplicaNumberChangesNothing() {
        for (int bad : Twins.NO_REPLICAS) {
            MoveTree x = Twins.inUse();
            x.move(bad, 5, 0);
            x.name(bad, 5, 1);
            x.parent(bad, 1);
            x.label(bad, 3);
            x.children(bad, 0);
            x.depth(bad, 2);
            x.skipped(bad);
            for (int good = 0; good < 3; good++) {
                x.deliver(bad, good);
                x.deliver(good, bad);
                x.sync(bad, good);
                x.sync(good, bad);
                x.alike(bad, good);
                x.alike(good, bad);
            }
            Twins.dueSame("after calls for replica " + bad, x, Twins.inUse());
        }
    }
}
