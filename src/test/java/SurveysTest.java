/**
 * all, kinds and best (promises 15, 16, 20) in many villages. The due answers are neither from the class nor from Model,
 * but from a program in Python, written anew after the document, with fractions that are never cut.
 */
public final class SurveysTest {
    private static final Check CHECK = new Check("SurveysTest");
    /** An object answers 512 calls; the rest of these is for the text. */
    private static final int CALLS = 400;
    /**
     * The text, LEAST, and: how many are HOLDING, the sum of them (each times 1 and its number), how many kinds, the best
     * by HELPED, by PLAIN, by BEARS.
     */
    private static final String[][] DUE = {
        {"", "0", "118 20224149 63 1309 277 1309"},
        {"", "761436", "70 6615884 39 1309 277 1309"},
        {"", "971546", "2 4183 2 1309 1309 1309"},
        {"hand 0;eye 0;", "0", "442 285939798 306 17 2732 3349"},
        {"hand 0;eye 0;", "938960", "233 70755766 128 17 85 3349"},
        {"hand 0;eye 0;", "999999", "160 30917687 128 17 85 3349"},
        {"cost 0;hand 0;eye 0;", "0", "1840 4987933937 1074 1 15 1"},
        {"cost 0;hand 0;eye 0;", "749999", "1158 1985966041 640 1 15 1"},
        {"cost 0;hand 0;eye 0;", "999999", "784 827181572 568 1 15 1"},
        {"cost 0;worth 0;", "0", "3084 13839495089 1566 15 15 15"},
        {"cost 0;worth 0;", "742499", "1352 2751901830 684 15 15 15"},
        {"cost 0;worth 0;", "989999", "204 62117602 110 15 15 15"},
        {"cost 3;worth 3;", "0", "0 0 0 -1 -1 -1"},
        {"cost 4;worth 3;", "0", "0 0 0 -1 -1 -1"},
        {"worth 0;", "0", "0 0 0 -1 -1 -1"},
        {"cost 99;worth 99;hand 0;eye 0;", "0", "256 101522899 208 273 1365 273"},
        {"cost 99;worth 99;hand 0;eye 0;", "499999", "102 15085146 78 273 1365 273"},
        {"cost 99;worth 99;hand 0;eye 0;", "999999", "56 3662289 48 273 277 273"},
        {"eye 50;", "0", "0 0 0 -1 -1 -1"},
        {"eye 33;", "0", "14 305270 7 277 277 277"},
        {"eye 33;", "612809", "10 154821 6 277 277 277"},
        {"eye 33;", "661319", "4 17874 4 277 277 277"},
        {"eye 34;", "0", "4 32305 2 3349 2442 3349"},
        {"eye 34;", "603899", "2 10303 2 3349 3349 3349"},
        {"hand 50;", "0", "42 2860401 22 1309 277 1309"},
        {"hand 50;", "86783", "21 669513 12 1309 277 1309"},
        {"hand 50;", "381727", "2 4183 2 1309 1309 1309"},
        {"hand 20;eye 10;", "0", "58 5269554 31 1309 277 1309"},
        {"hand 20;eye 10;", "337999", "34 1676852 19 1309 277 1309"},
        {"hand 20;eye 10;", "657887", "2 4183 2 1309 1309 1309"},
        {"worth 10;eye 5;", "0", "126 23061409 67 1309 277 1309"},
        {"worth 10;eye 5;", "632015", "70 6743124 39 1309 277 1309"},
        {"worth 10;eye 5;", "935909", "2 4183 2 1309 1309 1309"},
        {"worth 10;hand 5;eye 20;", "0", "142 29014155 71 343 277 343"},
        {"worth 10;hand 5;eye 20;", "515499", "68 6370988 34 343 277 343"},
        {"worth 10;hand 5;eye 20;", "900614", "2 5125 2 343 343 343"},
        {"fade 5;", "0", "128 23400924 67 2475 277 2475"},
        {"fade 5;", "731609", "67 6190409 40 2475 277 2475"},
        {"fade 5;", "971546", "2 8449 2 2475 2475 2475"},
        {"fade 5 new 0;", "0", "120 21095877 67 1309 277 1309"},
        {"fade 5 new 0;", "756359", "67 6123892 40 1309 277 1309"},
        {"fade 5 new 0;", "972499", "2 4183 2 1309 1309 1309"},
        {"fade 30 new 0;eye 2;", "0", "106 16480318 71 1309 277 1309"},
        {"fade 30 new 0;eye 2;", "508859", "57 4510820 46 1309 277 1309"},
        {"fade 30 new 0;eye 2;", "970595", "2 4183 2 1309 1309 1309"},
        {"fade 99;", "0", "96 13026148 87 2186 277 2186"},
        {"fade 99;", "9899", "62 5093566 56 2186 277 2186"},
        {"fade 99;", "989009", "12 211553 12 2186 2186 2186"},
        {"fade 99 new 0;", "0", "160 35105552 151 17 1365 277"},
        {"fade 99 new 0;", "17658", "136 25387145 133 17 1365 277"},
        {"fade 99 new 0;", "989999", "128 22416512 125 17 1365 277"},
        {"cost 2;worth 3;hand 5;eye 5;", "0", "36 1991573 18 1309 277 1309"},
        {"cost 2;worth 3;hand 5;eye 5;", "333449", "21 637396 11 1309 277 1309"},
        {"cost 2;worth 3;hand 5;eye 5;", "871415", "2 4183 2 1309 1309 1309"},
        {"cost 1;worth 99;hand 30;eye 40;", "0", "136 26600575 73 2718 2186 2718"},
        {"cost 1;worth 99;hand 30;eye 40;", "198861", "72 7278670 39 2718 2186 2718"},
        {"cost 1;worth 99;hand 30;eye 40;", "559506", "2 8218 2 2718 2718 2718"},
        {"cost 1;worth 4;hand 0;eye 2;fade 2 new 1;", "0", "134 25703650 67 2475 277 2475"},
        {"cost 1;worth 4;hand 0;eye 2;fade 2 new 1;", "772640", "66 6019243 39 2475 277 2475"},
        {"cost 1;worth 4;hand 0;eye 2;fade 2 new 1;", "980399", "2 8449 2 2475 2475 2475"},
        {"cost 5;worth 10;hand 0;eye 10;fade 10 new 0;", "0", "52 4030683 29 1309 277 1309"},
        {"cost 5;worth 10;hand 0;eye 10;fade 10 new 0;", "643999", "25 870173 14 1309 277 1309"},
        {"cost 5;worth 10;hand 0;eye 10;fade 10 new 0;", "918099", "2 4183 2 1309 1309 1309"}};

    public static void main(String[] args) {
        for (String[] row : DUE) {
            CHECK.about("15, 16, 20: \"" + row[0] + "\", LEAST " + row[1]);
            int least = Integer.parseInt(row[1]);
            CHECK.same("the survey", survey(row[0], least), row[2]);
        }
        CHECK.end();
    }

    private static String survey(String text, int least) {
        SaidOfHim x = village(text, least);
        int count = x.all(SaidOfHim.NONE);
        return count + " " + sum(text, least, count) + " " + x.kinds() + " " + x.best(0) + " " + x.best(1) + " " + x.best(2);
    }

    private static long sum(String text, int least, int count) {
        SaidOfHim x = village(text, least);
        long sum = 0;
        for (int i = 0; i < count; i++) {
            if (i % CALLS == 0) x = village(text, least);
            sum += (i + 1L) * x.all(i);
        }
        return sum;
    }

    private static SaidOfHim village(String text, int least) {
        SaidOfHim x = Check.village(text);
        x.least(least);
        return x;
    }
}
