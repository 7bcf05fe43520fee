/** One method or more for each promise: its ordinary use; BoundaryTest has the rest. */
public final class PromiseTest {
    public static void main(String[] args) {
        promise1NewObjectShowsTheStart();
        promise1ObjectsShareNothing();
        promise2MoveSetsTheParent();
        promise2MoveIsSkippedOnACircle();
        promise3NameSetsTheLabel();
        promise4DeliverGoesByOriginAndNumber();
        promise4DeliverTakesNoOtherOriginsChanges();
        promise4DeliverAnswersSkippedThere();
        promise5SyncPassesOnAllThatIsKnown();
        promise6ParentFollowsTheStamps();
        promise7LabelFollowsTheStamps();
        promise8ChildrenAreCounted();
        promise9DepthCountsSteps();
        promise10SkippedCountsMoves();
        promise11AlikeComparesWhatIsShown();
        stampsRiseOverAllReplicas();
        Answers.end();
    }

    private static void due(String call, int got, int want) {
        Answers.due(call, got, want);
    }

    private static void dueStart(String when, MoveTree x) {
        for (int r = 0; r < 3; r++) {
            for (int n = 0; n < 10; n++) {
                String at = "(" + r + ", " + n + ") " + when;
                due("parent" + at, x.parent(r, n), -1);
                due("label" + at, x.label(r, n), 0);
                due("children" + at, x.children(r, n), 0);
                due("depth" + at, x.depth(r, n), 0);
            }
            due("skipped(" + r + ") " + when, x.skipped(r), 0);
        }
    }

    private static void dueNothingKnown(String when, MoveTree x) {
        for (int from = 0; from < 3; from++) {
            for (int to = 0; to < 3; to++) {
                String at = "(" + from + ", " + to + ") " + when;
                due("sync" + at, x.sync(from, to), 0);
                due("deliver" + at, x.deliver(from, to), -1);
                due("alike" + at, x.alike(from, to), 1);
            }
        }
    }

    private static void promise1NewObjectShowsTheStart() {
        dueStart("new", new MoveTree());
        dueNothingKnown("new", new MoveTree());
    }

    private static void promise1ObjectsShareNothing() {
        MoveTree used = new MoveTree();
        used.move(0, 1, 2);
        used.name(1, 3, 4);
        MoveTree x = new MoveTree();
        dueStart("beside another", x);
        dueNothingKnown("beside another", x);
    }

    private static void promise2MoveSetsTheParent() {
        MoveTree x = new MoveTree();
        due("move(2, 9, 0)", x.move(2, 9, 0), 0);
        due("parent(2, 9)", x.parent(2, 9), 0);
        due("parent(0, 9) elsewhere", x.parent(0, 9), -1);
        due("move(2, 9, 5)", x.move(2, 9, 5), 0);
        due("parent(2, 9) moved on", x.parent(2, 9), 5);
        due("move(2, 9, 5) again", x.move(2, 9, 5), 0);
        due("skipped(2)", x.skipped(2), 0);
        due("sync(2, 0)", x.sync(2, 0), 3);
    }

    private static void promise2MoveIsSkippedOnACircle() {
        MoveTree x = new MoveTree();
        due("move(0, 4, 4)", x.move(0, 4, 4), 1);
        due("parent(0, 4)", x.parent(0, 4), -1);
        for (int n = 1; n < 9; n++) {
            due("move(0, n, n + 1)", x.move(0, n, n + 1), 0);
        }
        due("move(0, 9, 0)", x.move(0, 9, 0), 0);
        due("move(0, 9, 1) the longest circle", x.move(0, 9, 1), 1);
        due("move(0, 9, 8) the shortest circle", x.move(0, 9, 8), 1);
        due("parent(0, 9) kept", x.parent(0, 9), 0);
        due("move(0, 1, 9) upwards", x.move(0, 1, 9), 0);
        due("move(0, 9, 1) still above", x.move(0, 9, 1), 1);
        due("skipped(0)", x.skipped(0), 4);
    }

    private static void promise3NameSetsTheLabel() {
        MoveTree x = new MoveTree();
        due("name(1, 4, 7)", x.name(1, 4, 7), 0);
        due("label(1, 4)", x.label(1, 4), 7);
        due("label(1, 5) another node", x.label(1, 5), 0);
        due("label(0, 4) elsewhere", x.label(0, 4), 0);
        due("name(1, 4, 8)", x.name(1, 4, 8), 0);
        due("label(1, 4) named anew", x.label(1, 4), 8);
        due("sync(1, 0)", x.sync(1, 0), 2);
        due("label(0, 4) told", x.label(0, 4), 8);
    }

    private static void promise4DeliverGoesByOriginAndNumber() {
        MoveTree x = new MoveTree();
        x.name(0, 1, 10);
        x.name(0, 1, 20);
        x.name(0, 1, 30);
        due("deliver(0, 2)", x.deliver(0, 2), 0);
        due("label(2, 1) first", x.label(2, 1), 10);
        due("deliver(0, 2)", x.deliver(0, 2), 0);
        due("label(2, 1) second", x.label(2, 1), 20);
        due("sync(2, 1) what 2 has got", x.sync(2, 1), 2);
        due("deliver(0, 1) the third", x.deliver(0, 1), 0);
        due("label(1, 1) third", x.label(1, 1), 30);
        due("deliver(0, 1) no more", x.deliver(0, 1), -1);
        due("label(2, 1) kept", x.label(2, 1), 20);
    }

    private static void promise4DeliverTakesNoOtherOriginsChanges() {
        MoveTree x = new MoveTree();
        x.name(0, 1, 10);
        due("sync(0, 1)", x.sync(0, 1), 1);
        due("deliver(1, 2) nothing made at 1", x.deliver(1, 2), -1);
        x.name(1, 2, 20);
        due("deliver(1, 2)", x.deliver(1, 2), 0);
        due("label(2, 1)", x.label(2, 1), 0);
        due("label(2, 2)", x.label(2, 2), 20);
        due("deliver(1, 2) no more", x.deliver(1, 2), -1);
        due("deliver(0, 2)", x.deliver(0, 2), 0);
        due("label(2, 1) delivered", x.label(2, 1), 10);
    }

    private static void promise4DeliverAnswersSkippedThere() {
        MoveTree x = new MoveTree();
        x.move(0, 1, 1);
        x.move(0, 2, 2);
        x.name(0, 3, 4);
        due("deliver(0, 1)", x.deliver(0, 1), 1);
        due("deliver(0, 1)", x.deliver(0, 1), 2);
        due("deliver(0, 1) a naming", x.deliver(0, 1), 2);
        due("skipped(1)", x.skipped(1), 2);
        due("skipped(2)", x.skipped(2), 0);
    }

    private static void promise5SyncPassesOnAllThatIsKnown() {
        MoveTree x = new MoveTree();
        x.move(0, 1, 2);
        x.name(1, 2, 7);
        due("sync(0, 1)", x.sync(0, 1), 1);
        due("sync(1, 2) from two origins", x.sync(1, 2), 2);
        due("sync(1, 2) again", x.sync(1, 2), 0);
        due("sync(2, 2)", x.sync(2, 2), 0);
        due("parent(2, 1)", x.parent(2, 1), 2);
        due("label(2, 2)", x.label(2, 2), 7);
        due("label(0, 2) one way only", x.label(0, 2), 0);
        x.name(2, 2, 8);
        due("sync(2, 0) what is missing only", x.sync(2, 0), 2);
        due("label(0, 2)", x.label(0, 2), 8);
        due("sync(0, 2)", x.sync(0, 2), 0);
    }

    private static void promise6ParentFollowsTheStamps() {
        MoveTree x = new MoveTree();
        x.move(1, 1, 5);
        x.move(0, 1, 6);
        x.sync(0, 1);
        x.sync(1, 0);
        due("parent(0, 1), equal numbers", x.parent(0, 1), 5);
        due("parent(1, 1), equal numbers", x.parent(1, 1), 5);
        x.name(0, 9, 1);
        x.move(0, 1, 7);
        x.move(1, 1, 8);
        x.sync(1, 0);
        due("parent(0, 1), the greater number", x.parent(0, 1), 7);
    }

    private static void promise7LabelFollowsTheStamps() {
        MoveTree x = new MoveTree();
        x.name(2, 4, 11);
        x.name(1, 4, 12);
        x.name(0, 4, 13);
        x.sync(2, 0);
        due("label(0, 4) of 0 and 2", x.label(0, 4), 11);
        x.sync(0, 1);
        due("label(1, 4) of all", x.label(1, 4), 11);
        x.name(1, 4, 14);
        x.sync(1, 2);
        due("label(2, 4), the greater number", x.label(2, 4), 14);
        due("label(2, 5) another node", x.label(2, 5), 0);
    }

    private static void promise8ChildrenAreCounted() {
        MoveTree x = new MoveTree();
        for (int n = 1; n < 10; n++) {
            x.move(1, n, 0);
            due("children(1, 0)", x.children(1, 0), n);
        }
        x.move(1, 9, 8);
        x.move(1, 7, 8);
        x.move(1, 6, 7);
        due("children(1, 0) three moved away", x.children(1, 0), 6);
        due("children(1, 8) not those below", x.children(1, 8), 2);
        due("children(1, 7)", x.children(1, 7), 1);
        due("children(1, 9)", x.children(1, 9), 0);
        due("children(0, 0)", x.children(0, 0), 0);
        due("children(2, 0)", x.children(2, 0), 0);
    }

    private static void promise9DepthCountsSteps() {
        MoveTree x = new MoveTree();
        for (int n = 1; n < 10; n++) {
            x.move(2, n, n - 1);
        }
        for (int n = 0; n < 10; n++) {
            due("depth(2, " + n + ")", x.depth(2, n), n);
            due("depth(0, " + n + ")", x.depth(0, n), 0);
        }
        MoveTree y = new MoveTree();
        y.move(0, 3, 4);
        y.move(0, 4, 5);
        due("depth(0, 3) to a node that isn't the root", y.depth(0, 3), 2);
        due("depth(0, 5)", y.depth(0, 5), 0);
    }

    private static void promise10SkippedCountsMoves() {
        MoveTree x = new MoveTree();
        x.move(0, 1, 2);
        x.move(1, 2, 1);
        due("skipped(0)", x.skipped(0), 0);
        due("sync(0, 1)", x.sync(0, 1), 1);
        due("skipped(1) by an earlier move", x.skipped(1), 1);
        due("skipped(1) asked again", x.skipped(1), 1);
        due("sync(0, 1) nothing new", x.sync(0, 1), 0);
        due("skipped(1) after it", x.skipped(1), 1);
        due("parent(1, 2)", x.parent(1, 2), -1);
        x.move(1, 1, 3);
        due("skipped(1) isn't lifted by a later move", x.skipped(1), 1);
        due("skipped(2)", x.skipped(2), 0);
    }

    private static void promise11AlikeComparesWhatIsShown() {
        MoveTree x = new MoveTree();
        x.move(0, 9, 0);
        due("alike(0, 1) parents differ", x.alike(0, 1), 0);
        due("alike(1, 0) parents differ", x.alike(1, 0), 0);
        due("alike(1, 2)", x.alike(1, 2), 1);
        due("alike(0, 0)", x.alike(0, 0), 1);
        x.move(1, 9, 0);
        due("alike(0, 1) by other changes", x.alike(0, 1), 1);
        x.name(1, 0, 3);
        due("alike(0, 1) labels differ", x.alike(0, 1), 0);
        x.name(1, 0, 0);
        due("alike(0, 1) labels again the same", x.alike(0, 1), 1);
        x.move(1, 5, 5);
        due("alike(0, 1) skipped counts differ", x.alike(0, 1), 1);
        x.name(1, 9, 3);
        due("alike(0, 1) the last node's label differs", x.alike(0, 1), 0);
    }

    private static void stampsRiseOverAllReplicas() {
        MoveTree x = new MoveTree();
        for (int i = 0; i < 60; i++) {
            int r = 2 - i % 3;
            int next = 2 - (i + 1) % 3;
            due("name(" + r + ", 1, " + (i + 1) + ")", x.name(r, 1, i + 1), 0);
            // The next one was last in its turn two changes ago.
            due("sync(" + r + ", " + next + ")", x.sync(r, next), i == 0 ? 1 : 2);
            due("label(" + next + ", 1)", x.label(next, 1), i + 1);
        }
        due("name(0, 1, 61)", x.name(0, 1, 61), -1);
    }
}
