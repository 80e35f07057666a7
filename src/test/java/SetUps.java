/** Objects that tests of tables of calls begin from. SHEET 3 of each has nothing. */
final class SetUps {
    private SetUps() {
    }

    /** SHEETS 0 (23 bytes), 1 (6 shorts), 2 (4 ints); no moor. */
    static NosePost sheets() {
        NosePost x = new NosePost();
        Checks.write(x, 0, 0, "d51;p304;r117;k438;p566");
        Checks.write(x, 1, 1, 0, 8, 1, 3, 2, 15);
        Checks.write(x, 2, 2, 3, 8, 70000, 9);
        return x;
    }

    /**
     * POST 5, LAX 1, and four PEOPLE, all of them SMELT; one letter, two READINGS:
     * 0 PLAIN SMELL 3 WAS 3 PLACE 4; 1 RANK SMELL 6 WAS 1 PLACE 7;
     * 2 REEKING SMELL 4 WAS 3 PLACE 8; 3 PLAIN SMELL 5 WAS 6 PLACE 6.
     */
    static NosePost moor() {
        NosePost x = sheets();
        x.moor(0, 0, 0, 23);
        x.send(2);
        x.bathe(1, 6);
        x.reading(0, NosePost.NONE);
        x.reading(2, 1);
        x.tell(2);
        return x;
    }

    static NosePost moorWithAllReadings() {
        NosePost x = moor();
        for (int k = 2; k < 8; k++) {
            x.reading(0, 0);
        }
        return x;
    }

    static NosePost moorOf(String text) {
        NosePost x = Checks.moorOf(text);
        x.lose(3);
        return x;
    }
}
