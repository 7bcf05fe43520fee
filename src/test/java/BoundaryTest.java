/** The boundary cases that the promises name: one method for each clause of a sentence. */
public final class BoundaryTest {
    public static void main(String[] args) {
        promise1NoChangeIsMade();
        promise2AnswersOneIfSkippedNow();
        promise2RefusesAnotherReplica();
        promise2RefusesANodeNotFrom1To9();
        promise2RefusesAPNotFrom0To9();
        promise2RefusesAfter60Changes();
        promise2SkippedMovesCountAmongThe60();
        promise2RefusedMovesDoNotCountAmongThe60();
        promise3TakesEveryLabel();
        promise3RefusesAnotherReplica();
        promise3RefusesANodeNotFrom0To9();
        promise3RefusesAfter60Changes();
        promise3RefusedNamingsDoNotCountAmongThe60();
        promise4TheLeastNumberThatIsNotKnown();
        promise4AnswersAllThatAreSkippedThere();
        promise4NoSuchChange();
        promise4NoSuchChangeChangesNothing();
        promise4RefusesAnotherReplica();
        promise5NothingNewAnswers0();
        promise5NothingNewChangesNothing();
        promise5AllSixtyAtOnce();
        promise5RefusesAnotherReplica();
        promise6NoParent();
        promise6RefusesANodeNotFrom0To9();
        promise7RefusesANodeNotFrom0To9();
        promise8NoneToNineChildren();
        promise8RefusesANodeNotFrom0To9();
        promise9FromNoStepToNine();
        promise9RefusesANodeNotFrom0To9();
        promise10NoneToSixtySkipped();
        promise10RefusesAnotherReplica();
        promise11AnyOneNodeCanDiffer();
        promise11ParentRootIsNotNoParent();
        promise11AReplicaIsLikeItself();
        promise11RefusesAnotherReplica();
        readingChangesNothing();
        Answers.end();
    }

    private static void due(String call, int got, int want) {
        Answers.due(call, got, want);
    }

    private static MoveTree withNamings(int replica, int count) {
        MoveTree x = new MoveTree();
        for (int i = 1; i <= count; i++) {
            due("name(" + replica + ", 1, " + i + ")", x.name(replica, 1, i), 0);
        }
        return x;
    }

    // "No change is made."
    private static void promise1NoChangeIsMade() {
        MoveTree x = new MoveTree();
        for (int r = 0; r < 3; r++) {
            for (int s = 0; s < 3; s++) {
                due("deliver(" + r + ", " + s + ") new", x.deliver(r, s), -1);
                due("sync(" + r + ", " + s + ") new", x.sync(r, s), 0);
                due("alike(" + r + ", " + s + ") new", x.alike(r, s), 1);
            }
            due("skipped(" + r + ") new", x.skipped(r), 0);
        }
        for (int i = 0; i < 60; i++) {
            due("name(1, 1, 1), change " + (i + 1), x.name(1, 1, 1), 0);
        }
        due("name(1, 1, 1), the 61st", x.name(1, 1, 1), -1);
    }

    // "Answers 1 if it is skipped at the replica now, 0 if not": only this one, only there, and
    // only what is known now counts.
    private static void promise2AnswersOneIfSkippedNow() {
        MoveTree x = new MoveTree();
        due("move(0, 1, 1)", x.move(0, 1, 1), 1);
        due("move(0, 1, 2) after a skipped one", x.move(0, 1, 2), 0);
        due("move(0, 2, 1)", x.move(0, 2, 1), 1);
        due("move(1, 2, 1) where the circle isn't known", x.move(1, 2, 1), 0);
        due("sync(0, 1)", x.sync(0, 1), 3);
        due("parent(1, 1), 2 went below 1 before", x.parent(1, 1), -1);
        due("move(1, 1, 2) where it is known", x.move(1, 1, 2), 1);
    }

    // "-1, and changes nothing, if refused"
    private static void promise2RefusesAnotherReplica() {
        MoveTree x = Twins.inUse();
        for (int bad : Twins.NO_REPLICAS) {
            due("move(" + bad + ", 5, 0)", x.move(bad, 5, 0), -1);
            due("move(" + bad + ", 5, 5)", x.move(bad, 5, 5), -1);
        }
        Twins.dueSame("after moves at no replica", x, Twins.inUse());
    }

    // "node is not from 1 to 9"
    private static void promise2RefusesANodeNotFrom1To9() {
        MoveTree x = Twins.inUse();
        for (int r = 0; r < 3; r++) {
            for (int bad : Twins.NO_NODES) {
                due("move(" + r + ", " + bad + ", 5)", x.move(r, bad, 5), -1);
                due("move(" + r + ", " + bad + ", " + bad + ")", x.move(r, bad, bad), -1);
            }
            due("move(" + r + ", 0, 5)", x.move(r, 0, 5), -1);
            due("move(" + r + ", 0, 0)", x.move(r, 0, 0), -1);
        }
        Twins.dueSame("after moves of no node", x, Twins.inUse());
        MoveTree y = new MoveTree();
        due("move(0, 1, 5), the least node", y.move(0, 1, 5), 0);
        due("move(0, 9, 5), the greatest node", y.move(0, 9, 5), 0);
        due("children(0, 5)", y.children(0, 5), 2);
    }

    // "p is not from 0 to 9"
    private static void promise2RefusesAPNotFrom0To9() {
        MoveTree x = Twins.inUse();
        for (int r = 0; r < 3; r++) {
            for (int bad : Twins.NO_NODES) {
                due("move(" + r + ", 5, " + bad + ")", x.move(r, 5, bad), -1);
            }
        }
        Twins.dueSame("after moves to no node", x, Twins.inUse());
        MoveTree y = new MoveTree();
        due("move(0, 5, 0), the least p", y.move(0, 5, 0), 0);
        due("parent(0, 5)", y.parent(0, 5), 0);
        due("move(0, 5, 9), the greatest p", y.move(0, 5, 9), 0);
        due("parent(0, 5)", y.parent(0, 5), 9);
    }

    // "or 60 changes have been made."
    private static void promise2RefusesAfter60Changes() {
        MoveTree last = withNamings(2, 59);
        due("move(2, 1, 3), the 60th", last.move(2, 1, 3), 0);
        due("parent(2, 1)", last.parent(2, 1), 3);
        due("move(0, 1, 3), the 61st", last.move(0, 1, 3), -1);
        due("deliver(0, 2)", last.deliver(0, 2), -1);
        MoveTree x = Twins.full();
        for (int r = 0; r < 3; r++) {
            due("move(" + r + ", 5, 0) when full", x.move(r, 5, 0), -1);
            due("move(" + r + ", 5, 5) when full", x.move(r, 5, 5), -1);
        }
        Twins.dueSame("after moves when full", x, Twins.full());
    }

    private static void promise2SkippedMovesCountAmongThe60() {
        MoveTree x = new MoveTree();
        for (int i = 1; i <= 60; i++) {
            due("move(1, 4, 4), change " + i, x.move(1, 4, 4), 1);
        }
        due("move(1, 4, 4), the 61st", x.move(1, 4, 4), -1);
        due("move(1, 4, 5), the 61st", x.move(1, 4, 5), -1);
        due("skipped(1)", x.skipped(1), 60);
        due("parent(1, 4)", x.parent(1, 4), -1);
        due("sync(1, 0)", x.sync(1, 0), 60);
    }

    private static void promise2RefusedMovesDoNotCountAmongThe60() {
        MoveTree x = new MoveTree();
        for (int i = 1; i <= 60; i++) {
            due("move(0, 0, 1)", x.move(0, 0, 1), -1);
            due("move(3, 1, 2)", x.move(3, 1, 2), -1);
            due("move(0, 1, 10)", x.move(0, 1, 10), -1);
            due("move(0, 1, 2), change " + i, x.move(0, 1, 2), 0);
        }
        due("move(0, 1, 2), the 61st", x.move(0, 1, 2), -1);
    }

    // "Answers 0": whatever the label, also that which the node has.
    private static void promise3TakesEveryLabel() {
        MoveTree x = new MoveTree();
        int[] labels = {0, -1, 1, Integer.MIN_VALUE, Integer.MAX_VALUE, Integer.MAX_VALUE};
        for (int label : labels) {
            due("name(2, 0, " + label + ")", x.name(2, 0, label), 0);
            due("label(2, 0)", x.label(2, 0), label);
        }
        for (int label : labels) {
            due("deliver(2, 1)", x.deliver(2, 1), 0);
            due("label(1, 0)", x.label(1, 0), label);
        }
        due("deliver(2, 1) no more", x.deliver(2, 1), -1);
    }

    // "-1, and changes nothing, if refused"
    private static void promise3RefusesAnotherReplica() {
        MoveTree x = Twins.inUse();
        for (int bad : Twins.NO_REPLICAS) {
            due("name(" + bad + ", 5, 1)", x.name(bad, 5, 1), -1);
        }
        Twins.dueSame("after namings at no replica", x, Twins.inUse());
    }

    // "node is not from 0 to 9"
    private static void promise3RefusesANodeNotFrom0To9() {
        MoveTree x = Twins.inUse();
        for (int r = 0; r < 3; r++) {
            for (int bad : Twins.NO_NODES) {
                due("name(" + r + ", " + bad + ", 1)", x.name(r, bad, 1), -1);
            }
        }
        Twins.dueSame("after namings of no node", x, Twins.inUse());
        MoveTree y = new MoveTree();
        due("name(0, 0, 4), the least node", y.name(0, 0, 4), 0);
        due("label(0, 0)", y.label(0, 0), 4);
        due("name(0, 9, 5), the greatest node", y.name(0, 9, 5), 0);
        due("label(0, 9)", y.label(0, 9), 5);
    }

    // "or 60 changes have been made."
    private static void promise3RefusesAfter60Changes() {
        MoveTree last = withNamings(2, 60);
        due("label(2, 1), the 60th", last.label(2, 1), 60);
        due("name(2, 1, 61), the 61st", last.name(2, 1, 61), -1);
        due("name(0, 1, 61), the 61st", last.name(0, 1, 61), -1);
        due("deliver(0, 2)", last.deliver(0, 2), -1);
        MoveTree x = Twins.full();
        for (int r = 0; r < 3; r++) {
            due("name(" + r + ", 5, 1) when full", x.name(r, 5, 1), -1);
        }
        Twins.dueSame("after namings when full", x, Twins.full());
    }

    private static void promise3RefusedNamingsDoNotCountAmongThe60() {
        MoveTree x = new MoveTree();
        for (int i = 1; i <= 60; i++) {
            due("name(0, 10, 1)", x.name(0, 10, 1), -1);
            due("name(-1, 1, 1)", x.name(-1, 1, 1), -1);
            due("name(0, 1, 1), change " + i, x.name(0, 1, 1), 0);
        }
        due("name(0, 1, 1), the 61st", x.name(0, 1, 1), -1);
    }

    // "the change of the origin from with the least number that it doesn't know": it comes from
    // the origin, so what it knew itself when it made it isn't asked for.
    private static void promise4TheLeastNumberThatIsNotKnown() {
        MoveTree x = new MoveTree();
        x.name(0, 1, 10);
        x.name(0, 1, 20);
        x.sync(0, 1);
        x.name(1, 2, 30);
        x.name(0, 1, 40);
        due("deliver(1, 2), before what it was made after", x.deliver(1, 2), 0);
        due("label(2, 2)", x.label(2, 2), 30);
        due("label(2, 1), 0's are another origin's", x.label(2, 1), 0);
        due("deliver(0, 2), number 1", x.deliver(0, 2), 0);
        due("label(2, 1)", x.label(2, 1), 10);
        due("sync(1, 2), number 2", x.sync(1, 2), 1);
        due("deliver(0, 2), number 3", x.deliver(0, 2), 0);
        due("label(2, 1)", x.label(2, 1), 40);
        due("deliver(0, 1), number 3", x.deliver(0, 1), 0);
        due("label(1, 1)", x.label(1, 1), 40);
    }

    // "Answers how many moves that it knows are skipped there then"
    private static void promise4AnswersAllThatAreSkippedThere() {
        MoveTree x = new MoveTree();
        x.move(0, 1, 1);
        x.move(1, 2, 2);
        x.move(1, 3, 4);
        x.name(0, 3, 4);
        x.move(0, 4, 3);
        due("deliver(0, 1), one of each origin", x.deliver(0, 1), 2);
        due("deliver(0, 1), a naming", x.deliver(0, 1), 2);
        due("deliver(0, 1), closes a circle", x.deliver(0, 1), 3);
        due("deliver(1, 2), not those at other replicas", x.deliver(1, 2), 1);
        due("deliver(1, 2), not skipped there", x.deliver(1, 2), 1);
        due("skipped(0)", x.skipped(0), 1);
    }

    // "-1 if refused or there is no such change."
    private static void promise4NoSuchChange() {
        MoveTree x = new MoveTree();
        due("deliver(0, 1), none made", x.deliver(0, 1), -1);
        x.move(0, 1, 2);
        due("deliver(0, 0), its own", x.deliver(0, 0), -1);
        due("deliver(1, 0), made elsewhere", x.deliver(1, 0), -1);
        due("deliver(0, 1)", x.deliver(0, 1), 0);
        due("deliver(0, 1), known by deliver", x.deliver(0, 1), -1);
        due("sync(1, 2)", x.sync(1, 2), 1);
        due("deliver(0, 2), known by sync", x.deliver(0, 2), -1);
        due("deliver(1, 2), known at 1 and made at 0", x.deliver(1, 2), -1);
    }

    private static void promise4NoSuchChangeChangesNothing() {
        MoveTree x = Twins.inUse();
        MoveTree twin = Twins.inUse();
        x.sync(0, 1);
        twin.sync(0, 1);
        for (int r = 0; r < 3; r++) {
            due("deliver(" + r + ", " + r + ")", x.deliver(r, r), -1);
        }
        due("deliver(0, 1)", x.deliver(0, 1), -1);
        Twins.dueSame("after deliver of no change", x, twin);
    }

    private static void promise4RefusesAnotherReplica() {
        MoveTree x = Twins.inUse();
        for (int bad : Twins.NO_REPLICAS) {
            for (int r = 0; r < 3; r++) {
                due("deliver(" + bad + ", " + r + ")", x.deliver(bad, r), -1);
                due("deliver(" + r + ", " + bad + ")", x.deliver(r, bad), -1);
            }
            due("deliver(" + bad + ", " + bad + ")", x.deliver(bad, bad), -1);
        }
        Twins.dueSame("after deliver at no replica", x, Twins.inUse());
    }

    // "Answers how many changes it did not know before": none at all is 0, not -1.
    private static void promise5NothingNewAnswers0() {
        MoveTree x = new MoveTree();
        due("sync(0, 1), none made", x.sync(0, 1), 0);
        x.move(0, 1, 2);
        due("sync(1, 0), from one that knows none", x.sync(1, 0), 0);
        due("sync(0, 0)", x.sync(0, 0), 0);
        due("sync(0, 1)", x.sync(0, 1), 1);
        due("sync(0, 1) again", x.sync(0, 1), 0);
        due("sync(1, 0) back", x.sync(1, 0), 0);
        due("deliver(0, 2)", x.deliver(0, 2), 0);
        due("sync(1, 2), known by deliver", x.sync(1, 2), 0);
    }

    private static void promise5NothingNewChangesNothing() {
        MoveTree x = Twins.inUse();
        for (int r = 0; r < 3; r++) {
            due("sync(" + r + ", " + r + ")", x.sync(r, r), 0);
        }
        Twins.dueSame("after sync of each with itself", x, Twins.inUse());
        MoveTree y = Twins.inUse();
        MoveTree twin = Twins.inUse();
        due("sync(0, 1)", y.sync(0, 1), twin.sync(0, 1));
        due("sync(0, 1) again", y.sync(0, 1), 0);
        Twins.dueSame("after sync twice", y, twin);
    }

    private static void promise5AllSixtyAtOnce() {
        MoveTree x = new MoveTree();
        for (int i = 0; i < 60; i++) {
            x.move(i % 2, 1 + i % 9, 0);
        }
        due("sync(0, 2)", x.sync(0, 2), 30);
        due("sync(1, 0)", x.sync(1, 0), 30);
        due("sync(0, 2), the rest", x.sync(0, 2), 30);
        due("sync(2, 1)", x.sync(2, 1), 30);
        MoveTree y = withNamings(1, 60);
        due("sync(1, 2), all", y.sync(1, 2), 60);
        due("label(2, 1)", y.label(2, 1), 60);
        due("sync(2, 0), all, from another than their origin", y.sync(2, 0), 60);
    }

    // "or -1."
    private static void promise5RefusesAnotherReplica() {
        MoveTree x = Twins.inUse();
        for (int bad : Twins.NO_REPLICAS) {
            for (int r = 0; r < 3; r++) {
                due("sync(" + bad + ", " + r + ")", x.sync(bad, r), -1);
                due("sync(" + r + ", " + bad + ")", x.sync(r, bad), -1);
            }
            due("sync(" + bad + ", " + bad + ")", x.sync(bad, bad), -1);
        }
        Twins.dueSame("after sync at no replica", x, Twins.inUse());
    }

    // "-1 if it has none": and 0, not -1, if that is the root.
    private static void promise6NoParent() {
        MoveTree x = new MoveTree();
        x.move(0, 1, 0);
        x.move(0, 2, 9);
        due("parent(0, 0), the root", x.parent(0, 0), -1);
        due("parent(0, 1), the least parent", x.parent(0, 1), 0);
        due("parent(0, 2), the greatest parent", x.parent(0, 2), 9);
        due("parent(0, 9), never moved", x.parent(0, 9), -1);
        due("parent(1, 1), moved elsewhere", x.parent(1, 1), -1);
    }

    // "or refused, or node is not from 0 to 9."
    private static void promise6RefusesANodeNotFrom0To9() {
        MoveTree x = allBelow(0, 5);
        for (int r = 0; r < 3; r++) {
            for (int bad : Twins.NO_NODES) {
                due("parent(" + r + ", " + bad + ")", x.parent(r, bad), -1);
            }
        }
        for (int bad : Twins.NO_REPLICAS) {
            due("parent(" + bad + ", 1)", x.parent(bad, 1), -1);
        }
    }

    // "0 if refused or node is not from 0 to 9."
    private static void promise7RefusesANodeNotFrom0To9() {
        MoveTree x = allBelow(0, 5);
        for (int r = 0; r < 3; r++) {
            for (int bad : Twins.NO_NODES) {
                due("label(" + r + ", " + bad + ")", x.label(r, bad), 0);
            }
            due("label(" + r + ", 0), the least node", x.label(r, 0), 5);
            due("label(" + r + ", 9), the greatest node", x.label(r, 9), 5);
        }
        for (int bad : Twins.NO_REPLICAS) {
            due("label(" + bad + ", 1)", x.label(bad, 1), 0);
        }
    }

    /** At all replicas nodes 1 to 9 are below p and all ten bear the label: no read is empty. */
    private static MoveTree allBelow(int p, int label) {
        MoveTree x = new MoveTree();
        for (int node = 0; node < 10; node++) {
            x.name(0, node, label);
            x.move(0, node, p);
        }
        x.sync(0, 1);
        x.sync(0, 2);
        return x;
    }

    private static void promise8NoneToNineChildren() {
        MoveTree x = new MoveTree();
        due("children(1, 0), none", x.children(1, 0), 0);
        for (int node = 1; node < 10; node++) {
            x.move(1, node, 0);
            due("children(1, 0)", x.children(1, 0), node);
            due("children(1, " + node + ")", x.children(1, node), 0);
        }
        for (int node = 1; node < 9; node++) {
            x.move(1, node, 9);
            due("children(1, 0)", x.children(1, 0), 9 - node);
            due("children(1, 9)", x.children(1, 9), node);
        }
        due("children(0, 0), elsewhere", x.children(0, 0), 0);
    }

    // "-1 if refused or node is not from 0 to 9.": no node is a child of "none".
    private static void promise8RefusesANodeNotFrom0To9() {
        MoveTree[] both = {new MoveTree(), allBelow(0, 5)};
        for (MoveTree x : both) {
            for (int r = 0; r < 3; r++) {
                for (int bad : Twins.NO_NODES) {
                    due("children(" + r + ", " + bad + ")", x.children(r, bad), -1);
                }
            }
            for (int bad : Twins.NO_REPLICAS) {
                due("children(" + bad + ", 0)", x.children(bad, 0), -1);
            }
        }
    }

    private static void promise9FromNoStepToNine() {
        MoveTree x = new MoveTree();
        due("depth(2, 9), no step", x.depth(2, 9), 0);
        for (int node = 9; node >= 1; node--) {
            x.move(2, node, node - 1);
            due("depth(2, 9)", x.depth(2, 9), 10 - node);
        }
        for (int node = 0; node < 10; node++) {
            due("depth(2, " + node + ")", x.depth(2, node), node);
            due("depth(1, " + node + "), elsewhere", x.depth(1, node), 0);
        }
    }

    // "-1 if refused or node is not from 0 to 9."
    private static void promise9RefusesANodeNotFrom0To9() {
        MoveTree x = allBelow(0, 5);
        for (int r = 0; r < 3; r++) {
            for (int bad : Twins.NO_NODES) {
                due("depth(" + r + ", " + bad + ")", x.depth(r, bad), -1);
            }
        }
        for (int bad : Twins.NO_REPLICAS) {
            due("depth(" + bad + ", 1)", x.depth(bad, 1), -1);
        }
    }

    private static void promise10NoneToSixtySkipped() {
        MoveTree x = new MoveTree();
        due("skipped(0), none known", x.skipped(0), 0);
        for (int i = 1; i <= 60; i++) {
            x.move(i % 2, 3, 3);
            due("skipped", x.skipped(i % 2), (i + 1) / 2);
        }
        due("skipped(2)", x.skipped(2), 0);
        x.sync(0, 2);
        due("skipped(2), of one origin", x.skipped(2), 30);
        x.sync(1, 2);
        due("skipped(2), all", x.skipped(2), 60);
        due("skipped(0)", x.skipped(0), 30);
        MoveTree y = withNamings(0, 60);
        due("skipped(0), namings alone", y.skipped(0), 0);
    }

    // "-1."
    private static void promise10RefusesAnotherReplica() {
        MoveTree x = new MoveTree();
        for (int r = 0; r < 3; r++) {
            x.move(r, 1, 1);
        }
        for (int bad : Twins.NO_REPLICAS) {
            due("skipped(" + bad + ")", x.skipped(bad), -1);
        }
    }

    // "1 if the two replicas show the same parents and labels, else 0"
    private static void promise11AnyOneNodeCanDiffer() {
        for (int node = 0; node < 10; node++) {
            MoveTree named = new MoveTree();
            named.name(1, node, 1);
            dueUnlike("label of " + node, named);
            MoveTree moved = new MoveTree();
            if (node != 0) {
                moved.move(1, node, node == 9 ? 8 : 9);
                dueUnlike("parent of " + node, moved);
            }
        }
    }

    private static void dueUnlike(String what, MoveTree x) {
        due("alike(1, 0), " + what, x.alike(1, 0), 0);
        due("alike(0, 1), " + what, x.alike(0, 1), 0);
        due("alike(1, 2), " + what, x.alike(1, 2), 0);
        due("alike(2, 1), " + what, x.alike(2, 1), 0);
        due("alike(0, 2), " + what, x.alike(0, 2), 1);
        due("alike(2, 0), " + what, x.alike(2, 0), 1);
    }

    private static void promise11ParentRootIsNotNoParent() {
        MoveTree x = new MoveTree();
        x.move(1, 9, 0);
        dueUnlike("the root as the parent of 9", x);
        x.move(0, 9, 0);
        due("alike(0, 1), by two changes of the same kind", x.alike(0, 1), 1);
        x.name(0, 9, 0);
        due("alike(0, 1), named as it was", x.alike(0, 1), 1);
        x.move(0, 3, 3);
        due("alike(0, 1), one skipped more", x.alike(0, 1), 1);
    }

    private static void promise11AReplicaIsLikeItself() {
        MoveTree x = Twins.inUse();
        MoveTree y = new MoveTree();
        for (int r = 0; r < 3; r++) {
            due("alike(" + r + ", " + r + ") in use", x.alike(r, r), 1);
            due("alike(" + r + ", " + r + ") new", y.alike(r, r), 1);
        }
    }

    // "-1."
    private static void promise11RefusesAnotherReplica() {
        MoveTree x = new MoveTree();
        for (int bad : Twins.NO_REPLICAS) {
            for (int r = 0; r < 3; r++) {
                due("alike(" + bad + ", " + r + ")", x.alike(bad, r), -1);
                due("alike(" + r + ", " + bad + ")", x.alike(r, bad), -1);
            }
            due("alike(" + bad + ", " + bad + ")", x.alike(bad, bad), -1);
        }
    }

    // "Nothing is promised beyond the answers and state changes described above": a read, also
    // a refused one, describes no change.
    private static void readingChangesNothing() {
        MoveTree x = Twins.inUse();
        readAll(x);
        Twins.dueSame("after reads", x, Twins.inUse());
        MoveTree y = Twins.inUse();
        readAll(y);
        for (int i = 10; i <= 61; i++) {
            due("name(0, 1, 1) after reads, change " + i, y.name(0, 1, 1), i <= 60 ? 0 : -1);
        }
    }

    private static void readAll(MoveTree x) {
        for (int r = -1; r < 4; r++) {
            for (int node = -1; node < 11; node += 2) {
                x.parent(r, node);
                x.label(r, node);
                x.children(r, node);
                x.depth(r, node);
            }
            x.skipped(r);
            x.alike(r, 1);
            x.alike(1, r);
        }
    }
}
