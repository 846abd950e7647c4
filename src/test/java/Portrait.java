/**
 * All that works tell, as one text: two works with the same portrait are in the same state. It takes some 120
 * calls, the last of which change the works, so that they are to be thrown away behind it.
 */
final class Portrait {
    private static final int[] FORESEEN = {2, 4, 5, 6, 7};

    private Portrait() {
    }

    static String takenOf(AlumWorks works) {
        StringBuilder told = new StringBuilder();
        for (int what = 0; what <= 9; what++) {
            told.append(what == 0 ? "counts " : ", ").append(works.count(what));
        }
        for (int clamp = 0; hasClamp(works, clamp); clamp++) {
            for (int what = 0; what <= 3; what++) {
                told.append(what == 0 ? "; clamp " : ", ").append(works.clamp(clamp, what));
            }
        }
        for (int pit = 0; hasPit(works, pit); pit++) {
            for (int what = 0; what <= 3; what++) {
                told.append(what == 0 ? "; pit " : ", ").append(works.pit(pit, what));
            }
            told.append(", dry ").append(works.dry(pit));
        }
        for (int pan = 0; hasPan(works, pan); pan++) {
            for (int what = 0; what <= 4; what++) {
                told.append(what == 0 ? "; pan " : ", ").append(works.about(pan, what));
            }
            told.append(", right ").append(works.right(pan)).append(", barrels ").append(works.barrels(pan));
        }
        told.append("; mean ").append(works.mean()).append("; digest ").append(works.digest());
        days(works, told);
        return told.toString();
    }

    private static void days(AlumWorks works, StringBuilder told) {
        for (int days : new int[] {1, 7, 60}) {
            told.append("; behind ").append(days);
            for (int what : FORESEEN) {
                told.append(", ").append(works.foresee(days, what));
            }
        }
        told.append("; coins ").append(works.pass(60)).append("; digest then ").append(works.digest());
        for (int day = 0; day < 6; day++) {
            told.append(day == 0 ? "; rain " : ", ").append(works.setRain(day, 0));
        }
        for (int day = 0; day < 7; day++) {
            told.append(day == 0 ? "; ships " : ", ").append(works.setShip(day, 0));
        }
    }

    static boolean hasClamp(AlumWorks works, int clamp) {
        return !Model.INDEX.equals(Checks.outcome(() -> works.clamp(clamp, 0)));
    }

    static boolean hasPit(AlumWorks works, int pit) {
        return !Model.INDEX.equals(Checks.outcome(() -> works.pit(pit, 0)));
    }

    static boolean hasPan(AlumWorks works, int pan) {
        return !Model.INDEX.equals(Checks.outcome(() -> works.about(pan, 0)));
    }
}
