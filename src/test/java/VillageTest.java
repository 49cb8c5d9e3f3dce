/** Promises 1 to 7: a new object, feed, read, fault, village, least, does. */
public final class VillageTest {
    private static final Check CHECK = new Check("VillageTest");
    private static final int BASIC = 16 * 153 + 10;

    public static void main(String[] args) {
        newObject();
        feed();
        readTells();
        readFaults();
        faultByte();
        readChangesNothingElse();
        village();
        least();
        does();
        CHECK.end();
    }

    private static void newObject() {
        SaidOfHim x = new SaidOfHim();
        int[] first = {1, 3, 1, 1, 0, 1, 10, 153, 0, 0};
        for (int what = 0; what < first.length; what++) CHECK.due("new village(" + what + ")", x.village(what), first[what]);
        for (int p = 0; p < 6; p++) {
            for (int c = 0; c < 6; c++) CHECK.due("new view(" + p + ", " + c + ")", x.view(p, c), 1);
            CHECK.due("new kin(" + p + ", 0)", x.kin(p, 0), 0);
        }
        CHECK.due("new fault()", x.fault(), SaidOfHim.NONE);
        CHECK.due("new forget()", x.forget(), 0);
    }

    private static void feed() {
        SaidOfHim x = new SaidOfHim();
        CHECK.due("feed(0)", x.feed(0, 59), SaidOfHim.OUTSIDE);
        CHECK.due("feed(9)", x.feed(9, 59), SaidOfHim.OUTSIDE);
        CHECK.due("feed(-1)", x.feed(-1, 59), SaidOfHim.OUTSIDE);
        CHECK.due("feed(MIN)", x.feed(Integer.MIN_VALUE, 59), SaidOfHim.OUTSIDE);
        CHECK.due("bytes behind refused ones", x.village(9), 0);
        // the bytes above the n lowest are not taken
        CHECK.due("feed(3) of eight", x.feed(3, 0x616263643b657965L), 3);
        CHECK.due("feed(3)", x.feed(3, 0x20373bL), 6);
        CHECK.due("read eye 7;", x.read(), 1);
        CHECK.due("eye", x.village(3), 7);
        for (int n = 1; n <= 15; n++) CHECK.due("feed eights", x.feed(8, 0x2020202020202020L), 8 * n);
        CHECK.due("full at 120", x.feed(1, 32), SaidOfHim.FULL);
        CHECK.due("OUTSIDE goes before FULL", x.feed(9, 32), SaidOfHim.OUTSIDE);
        CHECK.due("bytes", x.village(9), 120);
        CHECK.due("read blanks", x.read(), 0);
        CHECK.due("bytes behind read", x.village(9), 0);
        for (int n = 1; n <= 14; n++) x.feed(8, 0x2020202020202020L);
        CHECK.due("feed to 119", x.feed(7, 0x20202020202020L), 119);
        CHECK.due("two more", x.feed(2, 0x3b3bL), SaidOfHim.FULL);
        CHECK.due("bytes stay", x.village(9), 119);
        CHECK.due("one more", x.feed(1, ';'), 120);
        CHECK.due("read", x.read(), -11);
        CHECK.due("fault", x.fault(), 119);
    }

    private static void told(String text, int clauses, int... want) {
        SaidOfHim x = new SaidOfHim();
        // ahead of it another village, of which nothing may stay
        Check.tell(x, "cost 8;worth 9;hand 11;eye 12;fade 13 new 0;way help help help not;");
        CHECK.due("read '" + text + "'", Check.tell(x, text), clauses);
        CHECK.due("fault '" + text + "'", x.fault(), SaidOfHim.NONE);
        for (int what = 0; what < want.length; what++) {
            CHECK.due("'" + text + "' village(" + what + ")", x.village(what), want[what]);
        }
        CHECK.due("'" + text + "' leaves no bytes", x.village(9), 0);
    }

    private static void readTells() {
        told("", 0, 1, 3, 1, 1, 0, 1, 10, 153);
        told("    ", 0, 1, 3, 1, 1, 0, 1, 10, 153);
        told("cost 0;", 1, 0, 3, 1, 1, 0, 1, 10, 153);
        told("cost 99;worth 0;", 2, 99, 0, 1, 1, 0, 1, 10, 153);
        told("worth 99;", 1, 1, 99, 1, 1, 0, 1, 10, 153);
        told("hand 50;eye 50;", 2, 1, 3, 50, 50, 0, 1, 10, 153);
        told("eye 0;hand 0;", 2, 1, 3, 0, 0, 0, 1, 10, 153);
        told("fade 99;", 1, 1, 3, 1, 1, 99, 1, 10, 153);
        told("fade 99 new 0;", 1, 1, 3, 1, 1, 99, 0, 10, 153);
        told("fade 0 new 1;", 1, 1, 3, 1, 1, 0, 1, 10, 153);
        told("fade5new0;", 1, 1, 3, 1, 1, 5, 0, 10, 153);
        told("fade 5 new 01;", 1, 1, 3, 1, 1, 5, 1, 10, 153);
        told("cost07;worth08;", 2, 7, 8, 1, 1, 0, 1, 10, 153);
        told("  cost  7  ;  worth 8 ; ", 2, 7, 8, 1, 1, 0, 1, 10, 153);
        told("way help not not not;", 1, 1, 3, 1, 1, 0, 1, 1, 153);
        told("way not help not not;", 1, 1, 3, 1, 1, 0, 1, 2, 153);
        told("way not not help not;", 1, 1, 3, 1, 1, 0, 1, 4, 153);
        told("way   not not not help  ;", 1, 1, 3, 1, 1, 0, 1, 8, 153);
        told("naming good bad bad bad bad bad bad good;", 1, 1, 3, 1, 1, 0, 1, 10, 129);
        told("naming bad good good good good good good bad;", 1, 1, 3, 1, 1, 0, 1, 10, 126);
        told("naming bad bad good bad bad bad bad bad;", 1, 1, 3, 1, 1, 0, 1, 10, 4);
        told("naming bad bad bad good bad good bad bad;", 1, 1, 3, 1, 1, 0, 1, 10, 40);
        told("naming good good good good good good good good;way help help help help;fade 1new0;eye 2;hand 3;worth 4;cost 5;", 7,
            5, 4, 3, 2, 1, 0, 15, 255);
        told("naming bad bad bad bad bad bad bad bad;way not not not not;", 2, 1, 3, 1, 1, 0, 1, 0, 0);
    }

    private static void faulty(String text, int number, int at) {
        SaidOfHim x = Check.village("cost 8;worth 9;hand 11;eye 12;fade 13 new 0;way help help help not;");
        Check.feed(x, text);
        CHECK.due("read '" + text + "'", x.read(), -10 - number);
        CHECK.due("fault '" + text + "'", x.fault(), at);
        int[] before = {8, 9, 11, 12, 13, 0, 7, 153, 0, 0};
        for (int what = 0; what < before.length; what++) {
            CHECK.due("'" + text + "' village(" + what + ")", x.village(what), before[what]);
        }
    }

    private static void readFaults() {
        faulty(";", 1, 0);
        faulty("  ;", 1, 2);
        faulty("7", 1, 0);
        faulty("777", 1, 0);
        faulty("cost", 1, 4);
        faulty("cost ", 1, 5);
        faulty("cost 5", 1, 6);
        faulty("cost 5  ", 1, 8);
        faulty("cost;", 1, 4);
        faulty("cost five;", 1, 5);
        faulty("cost -5;", 1, 5);
        faulty("cost 5 5;", 1, 7);
        faulty("cost 5 555;", 1, 7);
        faulty("cost 5x;", 1, 6);
        faulty("cost 5;;", 1, 7);
        faulty("cost 5 cost 5;", 1, 7);
        faulty("cost 5;new 1;", 1, 7);
        faulty("cost 5 new 1;", 1, 7);
        faulty("costs 5;", 1, 0);
        faulty("cos 5;", 1, 0);
        faulty("Cost 5;", 1, 0);
        faulty("coSt 5;", 1, 0);
        faulty("costS 5;", 1, 4);
        faulty("co st 5;", 1, 0);
        faulty("good;", 1, 0);
        faulty("cost\t5;", 1, 4);
        faulty("cost 5;\n", 1, 7);
        faulty("cost 5;" + (char) 0, 1, 7);
        faulty("cost 5;" + (char) 0xe9, 1, 7);
        faulty("fade new 1;", 1, 5);
        faulty("fade 5 new;", 1, 10);
        faulty("fade 5 new 1 new 1;", 1, 13);
        faulty("fade 5 news 1;", 1, 7);
        faulty("fade 5 ne", 1, 7);
        faulty("fade 5 new", 1, 10);
        faulty("way;", 1, 3);
        faulty("way help help help;", 1, 18);
        faulty("way help help help help help;", 1, 24);
        faulty("way helphelp help help;", 1, 4);
        faulty("wayhelp help help help;", 1, 0);
        faulty("way help good help help;", 1, 9);
        faulty("way 1 0 0 0;", 1, 4);
        faulty("way 100", 1, 4);
        faulty("naming good bad good bad good bad good;", 1, 38);
        faulty("naming good bad good bad good bad good bad bad;", 1, 43);
        faulty("naming good not", 1, 12);
        faulty("cost 100;", 2, 5);
        faulty("cost 000;", 2, 5);
        faulty("cost 000", 2, 5);
        faulty("cost 99999999999999999999999999999999;", 2, 5);
        faulty("worth 100;", 2, 6);
        faulty("hand 51;", 2, 5);
        faulty("hand51", 2, 4);
        faulty("eye 51;", 2, 4);
        faulty("eye 99;", 2, 4);
        faulty("eye   51;", 2, 6);
        faulty("fade 100;", 2, 5);
        faulty("fade 5 new 2;", 2, 11);
        faulty("fade 5 new 10;", 2, 11);
        faulty("fade 5 new 001;", 2, 11);
        faulty("cost 1;cost 1;", 3, 7);
        faulty("cost 1; cost", 3, 8);
        faulty("cost 1; cost 100;", 3, 8);
        faulty("cost 1;costs 1;", 1, 7);
        faulty("worth 1;cost 1;worth 1;", 3, 15);
        faulty("hand 1;hand 1;", 3, 7);
        faulty("eye 1;eye 1;", 3, 6);
        faulty("fade 1;fade 1 new 1;", 3, 7);
        faulty("way not not not not;way not not not not;", 3, 20);
        faulty("naming bad bad bad bad bad bad bad bad;naming bad bad bad bad bad bad bad bad;", 3, 39);
        faulty("cost 1;worth 1;hand 1;eye 1;fade 1;way not not not not;naming bad bad bad bad bad bad bad bad;cost 1;", 3, 94);
        faulty("cost 1;worth 1;hand 1;eye 1;fade 1;way not not not not;naming bad bad bad bad bad bad bad bad;x", 1, 94);
        faulty("hand 51;cost 1;cost 1;", 2, 5);
        faulty("cost 1;cost 1;hand 51;", 3, 7);
    }

    private static void faultByte() {
        SaidOfHim x = new SaidOfHim();
        Check.tell(x, "cost 1;x");
        CHECK.due("fault behind a faulty text", x.fault(), 7);
        Check.feed(x, "cost 2;");
        CHECK.due("fault is of the latest read, not of what is fed", x.fault(), 7);
        x.read();
        CHECK.due("fault behind a good text", x.fault(), SaidOfHim.NONE);
        Check.tell(x, "?");
        CHECK.due("fault at 0", x.fault(), 0);
        x.read();
        CHECK.due("fault behind an empty text", x.fault(), SaidOfHim.NONE);
    }

    private static void readChangesNothingElse() {
        SaidOfHim x = new SaidOfHim();
        x.least(77);
        x.call(2, 3, 0);
        x.kin(4, 3);
        Check.tell(x, "cost 2;");
        CHECK.due("LEAST behind read", x.village(8), 77);
        CHECK.due("view behind read", x.view(2, 3), 0);
        CHECK.due("kin behind read", x.kin(4, 3), 3);
        Check.tell(x, "cost 200;");
        CHECK.due("LEAST behind a fault", x.village(8), 77);
        CHECK.due("COST behind a fault", x.village(0), 2);
        CHECK.due("kin behind a fault", x.kin(4, 3), 3);
    }

    private static void village() {
        SaidOfHim x = new SaidOfHim();
        for (int what : new int[] {-1, 10, Integer.MIN_VALUE, Integer.MAX_VALUE}) {
            CHECK.due("village(" + what + ")", x.village(what), SaidOfHim.OUTSIDE);
        }
        x.least(4711);
        x.feed(5, 0);
        CHECK.due("village(8)", x.village(8), 4711);
        CHECK.due("village(9)", x.village(9), 5);
    }

    private static void least() {
        SaidOfHim x = new SaidOfHim();
        CHECK.due("least(999999)", x.least(999999), 0);
        CHECK.due("least(1000000)", x.least(1000000), SaidOfHim.OUTSIDE);
        CHECK.due("least(-1)", x.least(-1), SaidOfHim.OUTSIDE);
        CHECK.due("least(0)", x.least(0), 999999);
        CHECK.due("least(5)", x.least(5), 0);
        CHECK.due("village(8)", x.village(8), 5);
    }

    private static void does() {
        SaidOfHim x = new SaidOfHim();
        for (int d = 0; d < 2; d++) {
            for (int r = 0; r < 2; r++) {
                CHECK.due("the GOOD are helped", x.does(BASIC, d, r, SaidOfHim.NONE), r);
                for (int deed = 0; deed < 2; deed++) {
                    CHECK.due("named", x.does(BASIC, d, r, deed), r == 1 ? deed : 1 - deed);
                    int place = 4 * d + 2 * r + deed;
                    for (int k = 0; k < 8; k++) CHECK.due("one bit", x.does(16 << k, d, r, deed), k == place ? 1 : 0);
                }
                for (int k = 0; k < 4; k++) CHECK.due("one bit", x.does(1 << k, d, r, -1), k == 2 * d + r ? 1 : 0);
            }
        }
        CHECK.due("does(4095)", x.does(4095, 1, 1, 1), 1);
        CHECK.due("does(4096)", x.does(4096, 0, 0, 0), SaidOfHim.OUTSIDE);
        CHECK.due("does(-1)", x.does(-1, 0, 0, 0), SaidOfHim.OUTSIDE);
        CHECK.due("d 2", x.does(0, 2, 0, 0), SaidOfHim.OUTSIDE);
        CHECK.due("d -1", x.does(0, -1, 0, 0), SaidOfHim.OUTSIDE);
        CHECK.due("r 2", x.does(0, 0, 2, 0), SaidOfHim.OUTSIDE);
        CHECK.due("r -1", x.does(0, 0, -1, 0), SaidOfHim.OUTSIDE);
        CHECK.due("deed 2", x.does(0, 0, 0, 2), SaidOfHim.OUTSIDE);
        CHECK.due("deed -2", x.does(0, 0, 0, -2), SaidOfHim.OUTSIDE);
    }
}
