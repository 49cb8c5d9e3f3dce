/** The edges of THE TEXT: feed, read and fault (promises 2 to 4, section 2), a test for each sentence that names one. */
public final class TextEdgesTest {
    private static final Check CHECK = new Check("TextEdgesTest");
    private static final int OUTSIDE = SaidOfHim.OUTSIDE, FULL = SaidOfHim.FULL, NONE = SaidOfHim.NONE;
    private static final String AT_FIRST = "1 3 1 1 0 1 10 153";
    private static final String OTHERWISE = "cost8;worth9;hand11;eye12;fade13new0;way help help help not;naming good good good good bad bad bad bad;";
    private static final String OTHER_NUMBERS = "8 9 11 12 13 0 7 15";
    private static final String[] CLAUSES = {"cost 2;", "worth 4;", "hand 5;", "eye 6;", "fade 7 new 0;",
        "way not help help not;", "naming bad bad good bad bad bad bad good;"};

    public static void main(String[] args) {
        feedTakesOneToEight();
        feedTakesTheHighestFirst();
        feedTellsHowManyThereAre();
        feedIsFullBehind120();
        fullIsLastOfAll();
        fullChangesNothing();
        readEmptiesTheText();
        readTellsHowManyClauses();
        readLeavesTheVillageAtAFault();
        untoldIsAsAtFirst();
        faultIsOfTheLatestRead();
        theLongestText();
        NumberEdges.run();
        SignEdges.run();
        PlaceEdges.run();
        CHECK.end();
    }

    private static String blanks(int n) {
        return " ".repeat(n);
    }

    private static void told(String text, int clauses, String numbers) {
        SaidOfHim x = Check.village(OTHERWISE);
        CHECK.due("bytes of '" + text + "'", Check.feed(x, text), text.length());
        CHECK.due("read '" + text + "'", x.read(), clauses);
        CHECK.due("fault '" + text + "'", x.fault(), NONE);
        CHECK.same("village of '" + text + "'", Check.numbers(x), numbers);
        CHECK.due("bytes behind '" + text + "'", x.village(9), 0);
    }

    private static void faulty(String text, int number, int at) {
        SaidOfHim x = Check.village(OTHERWISE);
        CHECK.due("bytes of '" + text + "'", Check.feed(x, text), text.length());
        CHECK.due("read '" + text + "'", x.read(), -10 - number);
        CHECK.due("fault '" + text + "'", x.fault(), at);
        CHECK.same("village behind '" + text + "'", Check.numbers(x), OTHER_NUMBERS);
        CHECK.due("bytes behind '" + text + "'", x.village(9), 0);
    }

    // ---- feed

    private static void feedTakesOneToEight() {
        CHECK.about("2: up to eight bytes (n 1 .. 8), OUTSIDE");
        SaidOfHim x = new SaidOfHim();
        for (int n : new int[] {0, 9, -1, -8, 16, 64}) CHECK.due("feed(" + n + ")", x.feed(n, 59), OUTSIDE);
        for (int n : Check.FAR) CHECK.due("feed(" + n + ")", x.feed(n, 59), OUTSIDE);
        CHECK.due("bytes", x.village(9), 0);
        CHECK.due("feed(1)", x.feed(1, 59), 1);
        CHECK.due("feed(8)", x.feed(8, 59), 9);
    }

    private static void feedTakesTheHighestFirst() {
        CHECK.about("2: bytes of a long, the highest of these first, come behind THE TEXT");
        String text = "cost 42 ;worth 7;hand 11; eye 4;";
        for (int n = 1; n <= 8; n++) {
            SaidOfHim x = new SaidOfHim();
            String padded = text + blanks((n - text.length() % n) % n);
            // what stands above the n bytes is not of these
            long above = n == 8 ? 0 : -1L << 8 * n;
            for (int i = 0; i < padded.length(); i += n) {
                CHECK.due("feed by " + n, x.feed(n, above | Check.packed(padded.substring(i, i + n))), i + n);
            }
            CHECK.due("read, fed by " + n, x.read(), 4);
            CHECK.same("fed by " + n, Check.numbers(x), "42 7 11 4 0 1 10 153");
        }
        CHECK.about("2: bytes of 0 and of 128 and more are bytes, too");
        for (long bytes : new long[] {0, -1, Long.MIN_VALUE, Long.MAX_VALUE, 0x8080808080808080L}) {
            SaidOfHim x = new SaidOfHim();
            CHECK.due("feed(8, " + bytes + ")", x.feed(8, bytes), 8);
            CHECK.due("read", x.read(), -11);
            CHECK.due("fault", x.fault(), 0);
        }
    }

    private static void feedTellsHowManyThereAre() {
        CHECK.about("2: how many it has");
        SaidOfHim x = new SaidOfHim();
        int size = 0;
        for (int n = 1; n <= 8; n++) {
            size += n;
            CHECK.due("feed(" + n + ")", x.feed(n, 0x2020202020202020L), size);
            CHECK.due("village(9)", x.village(9), size);
        }
        x.read();
        CHECK.due("from 0 on behind read", x.feed(3, 0x202020L), 3);
    }

    private static void feedIsFullBehind120() {
        CHECK.about("Section 2: THE TEXT (120 bytes at most)");
        for (int n = 1; n <= 8; n++) {
            SaidOfHim x = new SaidOfHim();
            Check.feed(x, blanks(120 - n));
            CHECK.due("just room for " + n, x.feed(n, Check.packed(blanks(n))), 120);
            for (int m = 1; m <= 8; m++) CHECK.due("no room for " + m, x.feed(m, 32), FULL);
            x = new SaidOfHim();
            Check.feed(x, blanks(121 - n));
            CHECK.due("one byte too few for " + n, x.feed(n, Check.packed(blanks(n))), FULL);
            CHECK.due("none of these is taken", x.village(9), 121 - n);
            if (n > 1) CHECK.due("room for one less", x.feed(n - 1, Check.packed(blanks(n - 1))), 120);
        }
    }

    private static void fullIsLastOfAll() {
        CHECK.about("2: OUTSIDE, FULL (last of all)");
        SaidOfHim x = new SaidOfHim();
        Check.feed(x, blanks(120));
        for (int n : new int[] {0, 9, -1, Integer.MIN_VALUE, Integer.MAX_VALUE}) CHECK.due("feed(" + n + ")", x.feed(n, 32), OUTSIDE);
        CHECK.due("feed(1)", x.feed(1, 32), FULL);
    }

    private static void fullChangesNothing() {
        CHECK.about("Terms: what is refused changes nothing (a full text)");
        SaidOfHim x = new SaidOfHim();
        Check.feed(x, "cost 7;" + blanks(110) + "eye");
        CHECK.due("feed(3)", x.feed(3, Check.packed(" 5;")), FULL);
        CHECK.due("bytes", x.village(9), 120);
        CHECK.due("read", x.read(), -11);
        CHECK.due("fault", x.fault(), 120);
        Check.feed(x, "cost 7;" + blanks(112));
        CHECK.due("feed(2)", x.feed(2, Check.packed("x;")), FULL);
        CHECK.due("read as it was", x.read(), 1);
        CHECK.due("COST", x.village(0), 7);
        CHECK.due("room again", x.feed(8, 0), 8);
    }

    // ---- read

    private static void readEmptiesTheText() {
        CHECK.about("3: THE TEXT (it is empty then)");
        SaidOfHim x = new SaidOfHim();
        Check.feed(x, OTHERWISE);
        CHECK.due("read", x.read(), 7);
        CHECK.due("bytes", x.village(9), 0);
        CHECK.due("read of nothing", x.read(), 0);
        CHECK.same("as at first", Check.numbers(x), AT_FIRST);
        Check.feed(x, "?" + OTHERWISE);
        CHECK.due("read with a FAULT", x.read(), -11);
        CHECK.due("bytes behind a FAULT", x.village(9), 0);
        CHECK.due("a shorter one then", Check.tell(x, "eye 3;"), 1);
        CHECK.same("nothing of the longer one", Check.numbers(x), "1 3 1 3 0 1 10 153");
        for (int n = 0; n < 15; n++) CHECK.due("all room again", x.feed(8, 0x2020202020202020L), 8 * n + 8);
    }

    private static void readTellsHowManyClauses() {
        CHECK.about("3: how many clauses");
        StringBuilder text = new StringBuilder();
        CHECK.due("none", new SaidOfHim().read(), 0);
        for (int n = 0; n < CLAUSES.length; n++) {
            text.append(CLAUSES[n]);
            CHECK.due("read " + (n + 1), Check.tell(new SaidOfHim(), text.toString()), n + 1);
        }
        told("", 0, AT_FIRST);
        told(" ", 0, AT_FIRST);
        told(blanks(120), 0, AT_FIRST);
    }

    private static void readLeavesTheVillageAtAFault() {
        CHECK.about("3: -10 less the number of its FAULT (it is as it was)");
        String good = "worth 2;hand 3;eye 4;fade 5 new 1;way not not not not;naming bad bad bad bad bad bad bad bad;";
        faulty(good + "cost;", 1, 97);
        faulty(good + "cost 100;", 2, 98);
        faulty(good + "eye 5;", 3, 93);
        faulty(good + "cost 5", 1, 99);
        SaidOfHim x = new SaidOfHim();
        CHECK.due("read", Check.tell(x, "cost 5;eye"), -11);
        CHECK.same("of a new object", Check.numbers(x), AT_FIRST);
    }

    private static void untoldIsAsAtFirst() {
        CHECK.about("Section 2: what a text does not tell is as at first");
        String[] due = {"2 3 1 1 0 1 10 153", "1 4 1 1 0 1 10 153", "1 3 5 1 0 1 10 153", "1 3 1 6 0 1 10 153",
            "1 3 1 1 7 0 10 153", "1 3 1 1 0 1 6 153", "1 3 1 1 0 1 10 132"};
        for (int k = 0; k < CLAUSES.length; k++) told(CLAUSES[k], 1, due[k]);
        told("fade 7;", 1, "1 3 1 1 7 1 10 153");
        told("fade 0;", 1, AT_FIRST);
        CHECK.about("Section 2: the order of clauses is free");
        told("naming bad bad good bad bad bad bad good;way not help help not;fade 7 new 0;eye 6;hand 5;worth 4;cost 2;", 7, "2 4 5 6 7 0 6 132");
    }

    // ---- fault

    private static void faultIsOfTheLatestRead() {
        CHECK.about("4: the byte of the FAULT of the latest read(); NONE");
        SaidOfHim x = new SaidOfHim();
        CHECK.due("ahead of all reads", x.fault(), NONE);
        CHECK.due("fed only", x.feed(1, '?'), 1);
        CHECK.due("not read yet", x.fault(), NONE);
        CHECK.due("read", x.read(), -11);
        CHECK.due("at byte 0", x.fault(), 0);
        CHECK.due("asked again", x.fault(), 0);
        Check.tell(x, "eye 5;  ?");
        CHECK.due("of the latest", x.fault(), 8);
        x.feed(9, 0);
        x.village(10);
        x.forget();
        x.least(5);
        CHECK.due("other calls leave it", x.fault(), 8);
        x.read();
        CHECK.due("behind an empty text", x.fault(), NONE);
        Check.tell(x, "eye 99;");
        CHECK.due("of a NUMBER", x.fault(), 4);
        Check.tell(x, "eye 9;");
        CHECK.due("behind a text without one", x.fault(), NONE);
    }

    private static void theLongestText() {
        CHECK.about("Section 2: a text of 120 bytes is read to its end");
        String seven = "cost 2;worth 4;hand 5;eye 6;fade 7 new 0;way not help help not;naming bad bad good bad bad bad bad good";
        told(seven + blanks(119 - seven.length()) + ";", 7, "2 4 5 6 7 0 6 132");
        told(blanks(112) + "worth 4;", 1, "1 4 1 1 0 1 10 153");
        faulty(blanks(119) + ";", 1, 119);
        faulty(blanks(114) + "cost 5", 1, 120);
        faulty(seven + blanks(120 - seven.length()), 1, 120);
        faulty("x".repeat(120), 1, 0);
        faulty("cost " + "0".repeat(115), 2, 5);
        faulty(blanks(112) + "eye 5;x;", 1, 118);
        faulty(blanks(117) + "eye", 1, 120);
        faulty(blanks(118) + "ey", 1, 118);
    }

    /** NUMBERS: their figures and bounds. */
    private static final class NumberEdges {
        private static final String[] WORDS = {"cost ", "worth ", "hand ", "eye ", "fade ", "fade 0 new "};
        private static final int[] TOPS = {99, 99, 50, 50, 99, 1};

        static void run() {
            bounds();
            figures();
            wideOnes();
        }

        private static String withNumber(int which, int value) {
            String[] numbers = AT_FIRST.split(" ");
            numbers[which] = Integer.toString(value);
            return String.join(" ", numbers);
        }

        private static void bounds() {
            for (int k = 0; k < WORDS.length; k++) {
                CHECK.about("Section 1, FAULT 2: out of its bounds: " + WORDS[k] + "0 .. " + TOPS[k]);
                for (int v = 0; v <= 99; v++) {
                    if (v <= TOPS[k]) told(WORDS[k] + v + ";", 1, withNumber(k, v));
                    else faulty(WORDS[k] + v + ";", 2, WORDS[k].length());
                }
                faulty(WORDS[k] + "100;", 2, WORDS[k].length());
            }
        }

        private static void figures() {
            CHECK.about("Section 2: NUMBERS have one or two figures; FAULT 2: three figures or more (at its first)");
            for (int k = 0; k < WORDS.length; k++) {
                told(WORDS[k] + "00;", 1, withNumber(k, 0));
                told(WORDS[k] + "01;", 1, withNumber(k, 1));
                faulty(WORDS[k] + "000;", 2, WORDS[k].length());
                faulty(WORDS[k] + "001;", 2, WORDS[k].length());
                faulty(WORDS[k] + "0000;", 2, WORDS[k].length());
                faulty(WORDS[k] + "   001", 2, WORDS[k].length() + 3);
                faulty(WORDS[k] + ";", 1, WORDS[k].length());
            }
        }

        private static void wideOnes() {
            CHECK.about("FAULT 2: a NUMBER beyond 32 or 64 bits does not turn about");
            // all of these would be 0 or 1 again in 8, 16, 32 or 64 bits, or with a thousand turned about
            for (String v : new String[] {"256", "65536", "4294967296", "4294967297", "18446744073709551616",
                "18446744073709551617", "1000", "1001", "9999999999"}) {
                for (int k = 0; k < WORDS.length; k++) faulty(WORDS[k] + v + ";", 2, WORDS[k].length());
            }
        }
    }

    /** Every byte at every kind of place. */
    private static final class SignEdges {
        static void run() {
            CHECK.about("FAULT 1: it cannot stand there; blanks are 32 alone, letters a .. z, figures 0 .. 9");
            for (int sign = 0; sign < 256; sign++) {
                ahead(sign);
                behindAWord(sign);
                behindANumber(sign);
                inPlaceOfTheEnd(sign);
                behindAClause(sign);
                betweenWords(sign);
            }
        }

        private static boolean letter(int sign) {
            return sign >= 97 && sign <= 122;
        }

        private static boolean figure(int sign) {
            return sign >= 48 && sign <= 57;
        }

        private static String cost(int value) {
            return value + " 3 1 1 0 1 10 153";
        }

        private static void ahead(int sign) {
            String text = (char) sign + "cost 5;";
            if (sign == 32) told(text, 1, cost(5));
            else faulty(text, 1, 0);
        }

        private static void behindAWord(int sign) {
            String text = "cost" + (char) sign + "5;";
            if (sign == 32) told(text, 1, cost(5));
            else if (figure(sign)) told(text, 1, cost(10 * (sign - 48) + 5));
            else faulty(text, 1, letter(sign) ? 0 : 4);
        }

        private static void behindANumber(int sign) {
            String text = "cost 5" + (char) sign + ";";
            if (sign == 32) told(text, 1, cost(5));
            else if (figure(sign)) told(text, 1, cost(50 + sign - 48));
            else faulty(text, 1, sign == ';' ? 7 : 6);
        }

        private static void inPlaceOfTheEnd(int sign) {
            String text = "cost 5" + (char) sign;
            if (sign == ';') told(text, 1, cost(5));
            else faulty(text, 1, sign == 32 || figure(sign) ? 7 : 6);
        }

        private static void behindAClause(int sign) {
            String text = "cost 5;" + (char) sign;
            if (sign == 32) told(text, 1, cost(5));
            else faulty(text, 1, 7);
        }

        private static void betweenWords(int sign) {
            String text = "way help" + (char) sign + "not not not;";
            if (sign == 32) told(text, 1, "1 3 1 1 0 1 1 153");
            else faulty(text, 1, letter(sign) ? 4 : 8);
        }
    }

    /** Texts cut off, with blanks put in, with words run together, with clauses told twice. */
    private static final class PlaceEdges {
        private static final String TIGHT =
            "cost12;worth34;hand5;eye6;fade78new0;way help not help not;naming bad good bad good bad good bad good;";
        private static final String NUMBERS = "12 34 5 6 78 0 5 170";
        private static final String WHOLE_WORDS = " cost worth hand eye fade new way naming help not good bad ";

        static void run() {
            cutOff();
            oneBlankMore();
            blanksEverywhere();
            oneBlankLess();
            clauseWordsAtWrongPlaces();
            oneLetterAmiss();
            toldTwice();
            firstByte();
            leastOfThese();
        }

        private static boolean letter(char c) {
            return c >= 'a' && c <= 'z';
        }

        private static boolean figure(char c) {
            return c >= '0' && c <= '9';
        }

        private static int wordStart(String text, int end) {
            int start = end;
            while (start > 0 && letter(text.charAt(start - 1))) start--;
            return start;
        }

        private static void cutOff() {
            CHECK.about("FAULTS: the end at the text's length; a word that cannot: at its first letter");
            for (int size = 0; size <= TIGHT.length(); size++) {
                String text = TIGHT.substring(0, size);
                int start = wordStart(text, size);
                boolean broken = start < size && !WHOLE_WORDS.contains(" " + text.substring(start) + " ");
                if (text.isEmpty() || text.endsWith(";")) {
                    CHECK.due("read '" + text + "'", Check.tell(new SaidOfHim(), text), text.length() - text.replace(";", "").length());
                } else {
                    faulty(text, 1, broken ? start : size);
                    // behind blanks the end is where they end
                    faulty(text + blanks(120 - size), 1, broken ? start : 120);
                }
            }
        }

        private static void oneBlankMore() {
            CHECK.about("Section 2: blanks may stand anywhere but within words and NUMBERS");
            for (int at = 0; at <= TIGHT.length(); at++) {
                String text = TIGHT.substring(0, at) + " " + TIGHT.substring(at);
                char before = at == 0 ? ';' : TIGHT.charAt(at - 1);
                char behind = at == TIGHT.length() ? ';' : TIGHT.charAt(at);
                if (letter(before) && letter(behind)) faulty(text, 1, wordStart(text, at));
                else if (figure(before) && figure(behind)) faulty(text, 1, at + 1);
                else told(text, 7, NUMBERS);
            }
        }

        private static void blanksEverywhere() {
            CHECK.about("Section 2: blanks may stand anywhere: many, and none");
            told("  cost  12  ;  worth  34  ;  hand  5  ;  eye  6  ;  fade  78  new  0  ;  way  help  not  help  not  ;  ", 6,
                "12 34 5 6 78 0 5 153");
            told("   naming   bad   good   bad   good   bad   good   bad   good   ;   ", 1, "1 3 1 1 0 1 10 170");
            told("cost1;worth2;hand3;eye4;fade5new0;", 5, "1 2 3 4 5 0 10 153");
        }

        private static void oneBlankLess() {
            CHECK.about("Section 2: two words side by side need one");
            for (int at = 0; at < TIGHT.length(); at++) {
                if (TIGHT.charAt(at) != ' ') continue;
                String text = TIGHT.substring(0, at) + TIGHT.substring(at + 1);
                faulty(text, 1, wordStart(text, at));
            }
        }

        private static void clauseWordsAtWrongPlaces() {
            CHECK.about("FAULT 1: a word that cannot stand there: at its first letter");
            for (String word : WHOLE_WORDS.trim().split(" ")) {
                faulty("cost " + word, 1, 5);
                faulty("cost 5 " + word, 1, 7);
                if (!word.equals("new")) faulty("fade 5 " + word, 1, 7);
                faulty("fade 5 new " + word, 1, 11);
                faulty("fade 5 new 1 " + word, 1, 13);
                if (!word.equals("help") && !word.equals("not")) faulty("way help " + word, 1, 9);
                faulty("way help help help help " + word, 1, 24);
                if (!word.equals("good") && !word.equals("bad")) faulty("naming good " + word, 1, 12);
                faulty("naming bad bad bad bad bad bad bad bad " + word, 1, 39);
                if (" new help not good bad ".contains(" " + word + " ")) faulty("eye 5; " + word, 1, 7);
                faulty(word + "x", 1, 0);
                faulty("x" + word, 1, 0);
            }
            CHECK.about("Section 2: four W, eight M, neither fewer nor more");
            faulty("way;", 1, 3);
            faulty("way help help help;", 1, 18);
            faulty("naming;", 1, 6);
            faulty("naming bad bad bad bad bad bad bad;", 1, 34);
        }

        private static void oneLetterAmiss() {
            CHECK.about("FAULT 1: a word that is another one in but one letter");
            for (int at = 0; at < TIGHT.length(); at++) {
                char c = TIGHT.charAt(at);
                if (!letter(c)) continue;
                for (char other : new char[] {'q', (char) (c == 'a' ? 'b' : c - 1), (char) (c == 'z' ? 'y' : c + 1)}) {
                    String text = TIGHT.substring(0, at) + other + TIGHT.substring(at + 1);
                    faulty(text, 1, wordStart(TIGHT, at));
                }
            }
            CHECK.about("Section 2: letters a .. z: none in capitals");
            for (int at = 0; at < TIGHT.length(); at++) {
                char c = TIGHT.charAt(at);
                if (!letter(c)) continue;
                String text = TIGHT.substring(0, at) + (char) (c - 32) + TIGHT.substring(at + 1);
                // the letters ahead of it are a word by themselves, and none that can stand there
                faulty(text, 1, wordStart(TIGHT, at));
            }
        }

        private static void toldTwice() {
            CHECK.about("FAULT 3: a clause that was told already (at its first letter)");
            for (int k = 0; k < CLAUSES.length; k++) {
                faulty(CLAUSES[k] + CLAUSES[k], 3, CLAUSES[k].length());
                faulty(CLAUSES[k] + "  " + CLAUSES[k], 3, CLAUSES[k].length() + 2);
                String word = CLAUSES[k].split(" ")[0];
                faulty(CLAUSES[k] + word, 3, CLAUSES[k].length());
                faulty(CLAUSES[k] + word + "x", 1, CLAUSES[k].length());
                for (int j = 0; j < CLAUSES.length; j++) {
                    if (j == k || CLAUSES[k].length() * 2 + CLAUSES[j].length() > 120) continue;
                    faulty(CLAUSES[k] + CLAUSES[j] + CLAUSES[k], 3, CLAUSES[k].length() + CLAUSES[j].length());
                }
                faulty(TIGHT + word + ";", 3, TIGHT.length());
            }
            faulty("fade 5;fade 5 new 1;", 3, 7);
            faulty(TIGHT + "new", 1, TIGHT.length());
            CHECK.about("FAULT 3: a text that had a FAULT told nothing to the next one");
            SaidOfHim x = new SaidOfHim();
            Check.tell(x, "cost 5;eye 6;?");
            CHECK.due("read", Check.tell(x, "cost 5;eye 6;"), 2);
            CHECK.due("read the same once more", Check.tell(x, "cost 5;eye 6;"), 2);
        }

        private static void firstByte() {
            CHECK.about("FAULTS, at the first byte that has one");
            faulty("cost x;cost 100;", 1, 5);
            faulty("cost 100;cost x;", 2, 5);
            faulty("cost 1;cost 100;x", 3, 7);
            faulty("cost 1;worth 100;cost 1;", 2, 13);
            faulty("cost 100", 2, 5);
            faulty("cost 100x", 2, 5);
            faulty("cost 1;cost", 3, 7);
            faulty("hand 51 51;", 2, 5);
            faulty("fade 100 new 2;", 2, 5);
            faulty("fade 5 new 2 x", 2, 11);
        }

        private static void leastOfThese() {
            CHECK.about("FAULTS: of these the least");
            faulty("100;", 1, 0);
            faulty("cost 5 100;", 1, 7);
            faulty("way 100", 1, 4);
            faulty("naming good 100", 1, 12);
            faulty("fade 5 new 1 100", 1, 13);
            faulty("fade 5 100;", 1, 7);
            faulty("cost 5;worth cost 5;", 1, 13);
            faulty("cost 5;way help cost 5;", 1, 16);
            faulty("cost 5;100", 1, 7);
        }
    }
}
