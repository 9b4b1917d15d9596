/** All that the face tells of an object, as one text: objects that tell the same are in the same state. */
final class Face {
    private Face() {
    }

    /** Asked without changing anything. */
    static String told(CountRule x) {
        StringBuilder told = new StringBuilder();
        for (int what = 0; what < 12; what++) {
            told.append(x.count(what)).append(' ');
        }
        told.append("| ").append(x.fault(0)).append(' ').append(x.fault(1)).append(" | ").append(x.examiner());
        for (int what = 0; what < 3; what++) {
            told.append(' ').append(x.rule(what));
        }
        for (int child = 0; child < x.count(0); child++) {
            told.append(" | c");
            for (int what = 0; what < 12; what++) {
                told.append(' ').append(Check.child(x, child, what));
            }
        }
        for (int elder = 0; elder < x.count(1); elder++) {
            told.append(" | e");
            for (int what = 0; what < 3; what++) {
                told.append(' ').append(x.elder(elder, what));
            }
        }
        for (int i = 0; i < x.count(10); i++) {
            told.append(" | l ").append(x.log(i, 0)).append(' ').append(x.log(i, 1)).append(' ').append(x.log(i, 2));
        }
        return told.toString();
    }

    /** What is told, what is told behind each undoing, and what an image brings back: the object is spent then. */
    static String toldToTheEnd(CountRule x) {
        StringBuilder told = new StringBuilder(told(x));
        for (int i = 0; i < 50; i++) {
            int left = x.undo();
            told.append("\nundo ").append(left).append(": ").append(left == -1 ? "" : told(x));
            if (left == -1) {
                break;
            }
        }
        return told.append("\nback ").append(x.back()).append(": ").append(told(x)).toString();
    }
}
