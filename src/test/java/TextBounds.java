/** The bounds of the tape, of a text, of its tokens and lines (Terms, ==== 1; promises 2 to 4). */
final class TextBounds extends Checks {
    /** A NUMBER, least to most, behind some words: both ends do; one beyond either is FAULT 2 at the NUMBER. */
    private static void numbers(String ahead, int least, int most) {
        told(ahead + least + ";");
        told(ahead + most + ";");
        if (least > 0) {
            fault(ahead + (least - 1) + ";", 2, ahead.length());
        }
        fault(ahead + (most + 1) + ";", 2, ahead.length());
        fault(ahead + "9999;", 2, ahead.length());
        fault(ahead + "10000;", 2, ahead.length());
    }

    /** A setting of a text, by its count(): without it, and at both ends. */
    private static void setting(String word, int what, int without, int least, int most) {
        due(new RingHand().count(what), without);
        due(told("").count(what), without);
        due(told(word + " " + least + ";").count(what), least);
        due(told(word + " " + most + ";").count(what), most);
        numbers(word + " ", least, most);
    }

    // ---- promise 2

    @Sentence(promise = 2,
        says = "Twenty bytes come behind the tape, of each number the highest first: how many it has")
    static void fedBytes() {
        RingHand x = new RingHand();
        due(x.count(14), 0);
        // "from 77;stay 3;lag 0" and a ';' behind it.
        due(x.feed(0x66726f6d, 0x2037373b, 0x73746179, 0x20333b6c, 0x61672030), 20);
        due(x.feed(0x3b202020, 0x20202020, 0x20202020, 0x20202020, 0x2020203b), 40);
        due(x.count(14), 40);
        // The fortieth byte is the last number's lowest: a ';' that can't stand there.
        due(x.scene(40), 1);
        due(x.fault(), 39);
        // Bytes from 128 on are bytes, too, and no TOKENS.
        x.feed(0x20202080, 0, 0, 0, 0);
        due(x.scene(20), 1);
        due(x.fault(), 3);
        x.feed(-1, -1, -1, -1, -1);
        due(x.scene(20), 1);
        due(x.fault(), 0);
        x.feed(0x202020ff, -1, -1, -1, -1);
        due(x.scene(3), 0);
    }

    @Sentence(promise = 2, says = "NONE, and none come, if it would have more than 700.")
    static void fullTape() {
        RingHand x = new RingHand();
        due(feedText(x, "stay 7;"), 20);
        for (int i = 2; i <= 35; i++) {
            due(feedText(x, BLANKS), 20 * i);
        }
        due(feedText(x, "stay 9;"), -1);
        due(feedText(x, "stay 9;"), -1);
        due(x.count(14), 700);
        due(x.count(15) + x.count(16) + x.count(17), 0);
        due(x.scene(700), 0);
        due(x.count(0), 7);
        due(x.count(14), 0);
        due(feedText(x, "stay 9;"), 20);
        due(x.scene(20), 0);
        due(x.count(0), 9);
    }

    // ---- promise 3, the call

    @Sentence(promise = 3, says = "A TEXT of at most 700 bytes tells it.")
    static void longestText() {
        String text = "from 77;" + " ".repeat(685) + "stay 9;";
        due(text.length(), 700);
        RingHand x = told(text);
        due(x.count(0), 9);
        due(x.inches(9, 0), 77);
        due(feedText(x, text), 700);
        // Without its last byte it ends too soon.
        due(x.scene(699), 1);
        due(x.fault(), 699);
        fault(" ".repeat(699) + ";", 1, 699);
        fault("x".repeat(700), 1, 0);
        fault(";".repeat(700), 1, 0);
        fault("hand " + "7".repeat(695), 2, 5);
        due(told("ring inch" + "+1".repeat(345) + ";").turn(12), 12 + 345);
        fault("ring inch" + "+1".repeat(345) + "+", 1, 700);
        fault("ring " + "(1)".repeat(231) + ";", 1, 8);
    }

    @Sentence(promise = 3, says = "The tape's first n bytes (it is empty then) are a SCENE, all anew")
    static void firstBytes() {
        RingHand x = told("from 77;stay 4;");
        feedText(x, "stay 5;stay 6;");
        due(x.scene(7), 0);
        due(x.count(0), 5);
        due(x.count(14), 0);
        due(x.inches(0, 0), 120);
        feedText(x, "stay 5;stay 6;");
        due(x.scene(0), 0);
        due(x.count(0), 0);
        due(x.count(14), 0);
        due(x.scene(0), 0);
        // What stands behind the first n bytes is no part of a TOKEN that they end with.
        feedText(x, "hand seenx;");
        due(x.scene(9), 1);
        due(x.fault(), 9);
        feedText(x, "hand 12345;");
        due(x.scene(9), 1);
        due(x.fault(), 9);
        // Nor is what an earlier text left there.
        due(tell(x, "x".repeat(40)), 1);
        due(tell(x, "stay 1;    hand seen"), 1);
        due(x.fault(), 20);
        due(tell(x, "9".repeat(40)), 1);
        due(tell(x, "stay 1;    hand 1234"), 1);
        due(x.fault(), 20);
        // An empty tape has no bytes more to give.
        bad(() -> x.scene(1));
    }

    @Sentence(promise = 3, says = "are a SCENE, all anew: 0, or the FAULT (all stays).")
    static void anewAgainAndAgain() {
        String rich = "from 300;stay 9;go 200 9;mark 33;mark 34;hand 5;hand 6;ring 5;shows 0;hole 9;lag 9;wrist 9;"
            + "eye 9;behind 9;him 3;her 6;";
        RingHand x = new RingHand();
        for (int i = 0; i < 3; i++) {
            due(tell(x, rich), 0);
            counts(x, 0, 18, 2, 2, 2, 2, 0, 9, 9, 9, 9, 9);
            due(x.inches(18, 0), 200);
            due(x.tenth(4, 0), 1);
            due(x.all(0), 19);
            // A FAULT at the end of a rich text, and a poor text behind it: nothing is left of either.
            due(tell(x, rich + "?"), 1);
            due(tell(x, "stay 2;hole 1;hand 99;"), 0);
            due(x.all(0), 1);
            due(x.turn(12), 360);
            due(tell(x, rich + "?"), 1);
            due(x.scene(0), 0);
            counts(x, 0, 0, 0, 0, 0, 0, -1, 3, 2, 20, 0, 0);
            due(x.all(0), 1);
            due(x.inches(0, 0), 120);
        }
        // The longest rules, again and again.
        for (int i = 0; i < 4; i++) {
            due(tell(x, "ring inch" + "+1".repeat(345) + ";"), 0);
            due(x.turn(12), 12 + 345);
        }
    }

    @Sentence(promise = 3, says = "IllegalArgumentException: the tape has not so many, n below 0 (nothing changes).")
    static void tooFewBytes() {
        RingHand x = told("stay 4;lag 0;");
        due(tell(x, "lag 99;"), 2);
        x.hole(9);
        x.image();
        feedText(x, "stay 5;");
        for (int n : new int[] {-1, 21, 700, 701, LEAST_INT, GREATEST_INT}) {
            bad(() -> x.scene(n));
        }
        due(x.count(14), 20);
        due(x.count(0), 4);
        due(x.count(6), 9);
        due(x.count(7), 0);
        due(x.count(11), 1);
        due(x.count(15), 1);
        due(x.fault(), 4);
        isTrue(x.restore());
        due(x.scene(20), 0);
        due(x.count(0), 5);
    }

    @Sentence(promise = 3, says = "0, or the FAULT (all stays).")
    static void allStaysByFault() {
        RingHand x = told("from 100;go 50 5;stay 1;mark 50;hand seen;him 2;");
        x.hole(9);
        x.see(1, true);
        x.book(50);
        x.marks(1);
        x.image();
        x.lag(7);
        int kept = x.kept(0);
        // All that a SCENE has is told before the FAULT comes.
        due(tell(x, "from 200;stay 9;stay 9;stay 9;mark 99;mark 98;hand 1;hand 2;ring 5;shows 1;hole 1;lag 1;"
            + "wrist 1;eye 1;behind 1;her 1;him 2;;"), 1);
        counts(x, 0, 6, 2, 1, 1, 1, 0, 9, 7, 20, 0, 0, 2, 1, 1, 0, 1, 0, 0);
        due(x.inches(0, 0), 100);
        due(x.turn(12), 360);
        due(x.mark(0), 50);
        due(x.kept(0), kept);
        due(x.undo(), 1);
        isTrue(x.restore());
        due(x.count(6), 9);
    }

    @Sentence(promise = 3,
        says = "ACTS, what is SEEN, the BOOK, rows that are kept, the image are gone (STATUS stays).")
    static void allGoneBySceneThatIsTold() {
        RingHand x = told("stay 5;");
        x.hole(9);
        x.see(1, true);
        x.book(50);
        x.marks(1);
        x.image();
        due(tell(x, "lag"), 1);
        x.hole(0);
        x.book(0);
        due(tell(x, ""), 0);
        due(x.count(11), 0);
        due(x.undo(), -1);
        due(x.count(12), 0);
        due(x.count(13), 0);
        none(() -> x.kept(0));
        isTrue(!x.restore());
        due(x.count(6), 3);
        for (int status = 15; status <= 17; status++) {
            due(x.count(status), 1);
        }
    }

    // ---- promise 3, the bounds of what is told

    @Sentence(promise = 3, says = "INCHES are 12 to 480.")
    static void inchesOfText() {
        numbers("from ", 12, 480);
        due(told("from 12;").inches(0, 0), 12);
        due(told("from 480;").inches(0, 0), 480);
        numbers("mark ", 12, 480);
        due(told("mark 12;").mark(0), 12);
        due(told("mark 480;").mark(0), 480);
        due(told("go 12 1;").inches(1, 0), 12);
        due(told("go 480 1;").inches(1, 0), 480);
        fault("go 11 1;", 2, 3);
        fault("go 481 1;", 2, 3);
        fault("go 0 1;", 2, 3);
    }

    @Sentence(promise = 3, says = "MOVES 0, 1 .. (at most 12)")
    static void mostMoves() {
        due(told("").count(1), 0);
        due(told("stay 1;".repeat(12)).count(1), 12);
        RingHand x = told("go 60 1;stay 1;".repeat(6));
        due(x.count(1), 12);
        due(x.count(0), 12);
        fault("stay 1;".repeat(12) + "stay 1;", 2, 84);
        fault("stay 1;".repeat(12) + "go 60 1;", 2, 84);
    }

    @Sentence(promise = 3, says = "to so many INCHES in so many tenths (1 to 99), evenly; or she STAYS for so many")
    static void tenthsOfMove() {
        numbers("go 60 ", 1, 99);
        due(told("go 60 1;").count(0), 1);
        due(told("go 60 99;").count(0), 99);
        numbers("stay ", 1, 99);
        due(told("stay 1;").count(0), 1);
        due(told("stay 99;").count(0), 99);
    }

    @Sentence(promise = 3, says = "600 tenths at most, together")
    static void tenthsTogether() {
        due(told(STAY_600).count(0), 600);
        due(told("go 60 99;".repeat(6) + "go 12 6;").count(0), 600);
        fault("stay 99;".repeat(6) + "stay 7;", 2, 53);
        fault("stay 99;".repeat(6) + "go 12 7;", 2, 54);
        // The last ones that there may be: 501 and 99.
        due(told("stay 99;".repeat(5) + "stay 6;stay 99;").count(0), 600);
        fault("stay 99;".repeat(5) + "stay 7;stay 99;", 2, 52);
        due(told("stay 99;".repeat(5) + "stay 7;stay 98;").count(0), 600);
        fault("stay 99;".repeat(5) + "stay 6;stay 100;", 2, 52);
    }

    @Sentence(promise = 3, says = "tenths by which there were more than 600; a CHANGE that is not later")
    static void tenthsBeyondTheMost() {
        fault(STAY_600 + "stay 1;", 2, 60);
        fault(STAY_600 + "go 60 1;", 2, 61);
        fault(STAY_600 + "stay 0;", 2, 60);
        fault("him 5;her 5;", 2, 10);
        fault("him 5;her 4;", 2, 10);
        due(told("him 5;her 6;").count(2), 2);
    }

    @Sentence(promise = 3, says = "HE is so many INCHES BEHIND her (0 to 200; 0 without)")
    static void behindOfText() {
        setting("behind", 10, 0, 0, 200);
    }

    @Sentence(promise = 3, says = "CHANGES (at most 6)")
    static void mostChanges() {
        due(told("").count(2), 0);
        due(told("her 1;him 2;her 3;him 4;her 5;him 6;").count(2), 6);
        fault("her 1;him 2;her 3;him 4;her 5;him 6;her 7;", 2, 36);
        fault("her 1;him 2;her 3;him 4;her 5;him 6;him 7;", 2, 36);
        // The same face may be told again.
        due(told("him 1;him 2;him 3;him 4;him 5;him 6;").count(2), 6);
    }

    @Sentence(promise = 3, says = "from a tenth on (each later than the one ahead, 1 to 600) it is his, or hers")
    static void tenthsOfChanges() {
        numbers("him ", 1, 600);
        numbers("her ", 1, 600);
        due(told("him 599;her 600;").count(2), 2);
        fault("him 600;her 600;", 2, 12);
        fault("him 600;her 601;", 2, 12);
        fault("him 600;her 1;", 2, 12);
        due(told("him 1;her 2;").count(2), 2);
        fault("him 1;her 1;", 2, 10);
        fault("him 2;her 1;", 2, 10);
        fault("her 7;her 7;", 2, 10);
        // A CHANGE may come behind the SCENE's last tenth.
        due(told("stay 5;him 6;").tenth(5, 0), 0);
        due(told("stay 5;him 5;").tenth(5, 0), 1);
        due(told(STAY_600 + "him 600;").tenth(600, 0), 1);
        due(told(STAY_600 + "him 600;").tenth(599, 0), 0);
        due(told("stay 5;him 1;").tenth(0, 0), 0);
        due(told("stay 5;him 1;").tenth(1, 0), 1);
        RingHand six = told("stay 7;him 1;her 2;him 3;her 4;him 5;her 6;");
        int[] face = {0, 1, 0, 1, 0, 1, 0, 0};
        for (int t = 0; t < face.length; t++) {
            due(six.tenth(t, 0), face[t]);
        }
    }

    @Sentence(promise = 3, says = "MARKS (at most 6): INCHES.")
    static void mostMarks() {
        String six = "mark 12;mark 13;mark 14;mark 15;mark 16;mark 480;";
        due(told("").count(3), 0);
        RingHand x = told(six);
        due(x.count(3), 6);
        due(x.mark(0), 12);
        due(x.mark(5), 480);
        fault(six + "mark 18;", 2, 49);
        // It is the seventh, whatever INCHES would come.
        fault(six + "mark 12;", 2, 49);
        fault(six + "mark", 2, 49);
    }

    @Sentence(promise = 3, says = "HOLE (1 to 60; 3 without)")
    static void holeOfText() {
        setting("hole", 6, 3, 1, 60);
    }

    @Sentence(promise = 3, says = "LAG (0 to 24 tenths; 2 without)")
    static void lagOfText() {
        setting("lag", 7, 2, 0, 24);
    }

    @Sentence(promise = 3, says = "WRIST (1 to 90 a tenth; 20 without)")
    static void wristOfText() {
        setting("wrist", 8, 20, 1, 90);
    }

    @Sentence(promise = 3, says = "EYE (-30 to 30 in a hundred; 0 without)")
    static void eyeOfText() {
        setting("eye", 9, 0, 0, 30);
        due(told("eye -30;").count(9), -30);
        due(told("eye - 1;").count(9), -1);
        due(told("eye -0;").count(9), 0);
        numbers("eye -", 0, 30);
        numbers("eye - ", 0, 30);
        fault("eye --1;", 1, 5);
        fault("eye +1;", 1, 4);
        // No other NUMBER has a sign.
        for (String line : new String[] {"lag -1;", "hole -1;", "wrist -1;", "behind -1;", "stay -1;", "him -1;"}) {
            fault(line, 1, line.indexOf('-'));
        }
    }

    @Sentence(promise = 3, says = "HANDS 0, 1 .. (at most 4): rules.")
    static void mostHands() {
        due(told("").count(4), 0);
        due(told("hand 1;hand 2;hand 3;").count(4), 3);
        due(told("hand 1;hand 2;hand 3;hand 4;").count(4), 4);
        fault("hand 1;hand 2;hand 3;hand 4;hand 5;", 2, 28);
        // Each rule is its own, in whichever order they are told.
        RingHand x = told("hand 301;hand 302;shows off-9;hand 303;ring 300;hand 304;stay 1;hole 1;");
        due(x.turn(12), 300);
        for (int hand = 0; hand < 4; hand++) {
            isTrue(x.hand(hand));
            due(x.tenth(1, 2), 301 + hand);
            due(x.tenth(1, 5), 0);
        }
        RingHand first = told("ring 300;hand 310;shows off-9;stay 1;");
        due(first.turn(12), 300);
        due(first.tenth(1, 5), 1);
    }

    // ---- promise 3, tokens

    @Sentence(promise = 3, says = "words (a .. z, the longest row)")
    static void longestWords() {
        due(told("stay5;").count(0), 5);
        fault("stayx 5;", 1, 0);
        fault("sta 5;", 1, 0);
        fault("stayhole 5;", 1, 0);
        fault("st ay 5;", 1, 0);
        for (String word : WORDS) {
            for (int i = 0; i < word.length() && word.length() > 1; i++) {
                // No word but these may stand there, not one of another letter.
                char other = word.charAt(i) == 'q' ? 'j' : 'q';
                fault(word.substring(0, i) + other + word.substring(i + 1) + " 50 5;", 1, 0);
            }
        }
        fault("hand seenwas;", 3, 5);
        due(told("hand not0;").count(4), 1);
        fault("hand notseen;", 3, 5);
        due(told("hand 1or 2and 3;").count(4), 1);
        // The bytes beside a and z, and capitals, are none.
        fault("Stay 5;", 1, 0);
        fault("staY 5;", 1, 0);
        fault("hand `;", 1, 5);
        fault("hand {;", 1, 5);
        fault("hand a;", 3, 5);
        fault("hand z;", 3, 5);
    }

    @Sentence(promise = 3, says = "NUMBERS (1 to 4 digits)")
    static void digits() {
        due(told("stay 5;").count(0), 5);
        due(told("stay 0005;").count(0), 5);
        fault("stay 00005;", 2, 5);
        due(told("from 0012;").inches(0, 0), 12);
        fault("from 00012;", 2, 5);
        due(told("ring 9999-9000;").turn(12), 999);
        due(told("ring 9999-9001;").turn(12), 998);
        // The bytes beside 0 and 9.
        due(told("ring 8/2;").turn(12), 4);
        fault("ring 1:1;", 1, 6);
        // 2 to the power of 32, and 12: no NUMBER wraps.
        fault("from 4294967308;", 2, 5);
        fault("hand 4294967308;", 2, 5);
    }

    @Sentence(promise = 3, says = "a NUMBER of 5 digits or more, or (not in an EXPR) not as told")
    static void numberOfFiveDigits() {
        fault("hand 10000;", 2, 5);
        fault("hand 00001;", 2, 5);
        fault("hand 1+99999;", 2, 7);
        fault("ring 123456;", 2, 5);
        fault("shows 12345;", 2, 6);
        told("hand 9999;ring 9999;shows 0000;");
        fault("go 12345 5;", 2, 3);
        fault("go 60 12345;", 2, 6);
        fault("him 12345;", 2, 4);
        // Where no NUMBER can stand it is FAULT 1.
        fault("12345;", 1, 0);
        fault("hand 1 12345;", 1, 7);
        fault("stay 5 12345;", 1, 7);
        fault("hand (1)12345;", 1, 8);
    }

    @Sentence(promise = 3, says = "signs ; ( ) + - * / < = ; blanks (32, 10) between them count for nothing.")
    static void everyByte() {
        for (int b = 0; b < 256; b++) {
            char sign = (char) b;
            boolean blank = b == 32 || b == 10;
            boolean digit = sign >= '0' && sign <= '9';
            boolean letter = sign >= 'a' && sign <= 'z';
            RingHand x = new RingHand();
            boolean between = "+-*/<=".indexOf(sign) >= 0 || digit;
            due(tell(x, "hand 1" + sign + "1;"), between ? 0 : 1);
            due(x.fault(), between ? -1 : blank || sign == ';' ? 7 : 6);
            boolean good = blank || digit;
            due(tell(x, "hand" + sign + "1;"), good ? 0 : 1);
            due(x.fault(), good ? -1 : letter ? 0 : sign == '(' ? 6 : 4);
            due(tell(x, sign + ""), blank ? 0 : 1);
            due(x.fault(), blank ? -1 : 0);
        }
        due(told(" \n\n from \n12 ; \nstay\n2\n;\n ").count(0), 2);
        due(told("from12;stay2;go20 3;eye-3;him1;ring(inch);").count(0), 5);
        fault("stay 1 2;", 1, 7);
        fault("stay\t1;", 1, 4);
        fault("stay 1;\r\n", 1, 7);
    }

    // ---- promise 3, lines

    @Sentence(promise = 3, says = "SCENE: ['from' INCHES ';'] LINE* (from 120 without).")
    static void emptyScene() {
        due(told("").inches(0, 0), 120);
        due(told(" ").inches(0, 0), 120);
        due(told(" \n ".repeat(233)).count(0), 0);
        due(told("from 77;").inches(0, 0), 77);
        due(told("\nfrom 77;").inches(0, 0), 77);
        due(told("stay 2;").inches(2, 0), 120);
    }

    @Sentence(promise = 3,
        says = "1 a TOKEN that can't stand there, or is none (the text's length where it ends too soon;")
    static void endsTooSoon() {
        String[] lines = {"from 120 ;", "go 60 9 ;", "stay 9 ;", "behind 9 ;", "him 9 ;", "her 9 ;", "mark 99 ;",
            "hole 9 ;", "lag 9 ;", "wrist 9 ;", "eye 9 ;", "eye - 9 ;", "ring inch ;", "shows off ;", "hand seen ;",
            "hand ( 1 ) ;", "hand 1 + 1 ;", "hand 1 - 1 ;", "hand 1 * 1 ;", "hand 1 / 1 ;", "hand 1 < 1 ;",
            "hand 1 = 1 ;", "hand 1 or 1 ;", "hand 1 and 1 ;", "hand not 1 ;"};
        for (String line : lines) {
            told(line);
            String[] tokens = line.split(" ");
            String text = "";
            for (int i = 0; i + 1 < tokens.length; i++) {
                text += (i == 0 ? "" : " ") + tokens[i];
                fault(text, 1, text.length());
                // Blanks at the end are of the text, too.
                fault(text + "  \n", 1, text.length() + 3);
                // In place of what should follow, something that can stand nowhere there.
                fault(text + " ? ;", 1, text.length() + 1);
            }
        }
        fault(";", 1, 0);
        fault("stay 5;;", 1, 7);
        fault("stay 5;5", 1, 7);
        fault("from 77;;", 1, 8);
        fault("stay;", 1, 4);
        fault("go 60;", 1, 5);
        fault("go;", 1, 2);
        fault("eye;", 1, 3);
        fault("mark;", 1, 4);
        fault("him;", 1, 3);
        fault("walk 5;", 1, 0);
        fault("seen;", 1, 0);
        fault("not;", 1, 0);
    }

    @Sentence(promise = 3, says = "'from' but at the beginning);")
    static void fromElsewhere() {
        fault("from 77;from 77;", 1, 8);
        fault("stay 1;from 77;", 1, 7);
        fault("from 77;stay 1;from", 1, 15);
        fault("from from;", 1, 5);
        fault("stay from;", 1, 5);
        fault("hand from;", 3, 5);
    }

    @Sentence(promise = 3,
        says = "the first TOKEN of the 13th MOVE, the 7th CHANGE, MARK, the 5th HAND, of an EXPR within 6 others")
    static void firstTokenOfOneTooMany() {
        String moves = "go 60 1;".repeat(12);
        fault(moves + "go", 2, 96);
        fault(moves + "stay", 2, 96);
        fault(moves + " \ngo ?", 2, 98);
        String changes = "her 1;him 2;her 3;him 4;her 5;him 6;";
        fault(changes + "her", 2, 36);
        fault(changes + "him ?", 2, 36);
        String marks = "mark 12;mark 13;mark 14;mark 15;mark 16;mark 17;";
        fault(marks + "mark", 2, 48);
        fault(marks + "mark ?", 2, 48);
        String hands = "hand 1;hand 2;hand 3;hand 4;";
        fault(hands + "hand", 2, 28);
        fault(hands + "hand xyz;", 2, 28);
        // All rows may be full at once, and what is no row still be told.
        RingHand x = told(moves + changes + marks + hands + "ring 1;shows 1;hole 1;lag 1;wrist 1;eye 1;behind 1;");
        counts(x, 0, 12, 12, 6, 6, 4, 0, 1, 1, 1, 1, 1);
    }

    @Sentence(promise = 3, says = "4 INCHES of a MARK that is there already")
    static void markTwice() {
        fault("mark 50;mark 50;", 4, 13);
        fault("mark 50;mark 0050;", 4, 13);
        fault("mark 50;mark 51;mark 50;", 4, 21);
        fault("mark 12;mark 13;mark 14;mark 15;mark 16;mark 16;", 4, 45);
        fault("mark 50;mark 50", 4, 13);
        due(told("mark 50;mark 51;mark 49;").count(3), 3);
        fault("mark 50;mark 00050;", 2, 13);
    }

    @Sentence(promise = 3, says = "5 a second 'behind', 'hole', 'lag', 'wrist', 'eye', 'ring', 'shows'.")
    static void toldTwice() {
        for (String word : new String[] {"behind", "hole", "lag", "wrist", "eye", "ring", "shows"}) {
            String line = word + " 9;";
            fault(line + line, 5, line.length());
            fault(line + word, 5, line.length());
            fault(line + word + " 12345;", 5, line.length());
            fault(line + "stay 1;" + line, 5, line.length() + 7);
        }
        fault("eye 9;eye -9;", 5, 6);
        told("behind 9;hole 9;lag 9;wrist 9;eye 9;ring 9;shows 9;");
    }

    @Sentence(promise = 3, says = "FAULTS, the first along the text, at a TOKEN's first byte, of one TOKEN the least")
    static void firstAndLeastFault() {
        // The first along the text, whichever its kind.
        fault("lag 3;lag 4;stay 0;?", 5, 6);
        fault("stay 0;lag 3;lag 4;?", 2, 5);
        fault("mark 50;mark 50;lag 99;", 4, 13);
        fault("hand xyz;?", 3, 5);
        fault("stay 5;?;stay 0;", 1, 7);
        // At the first byte of a long TOKEN.
        fault("stay    100;", 2, 8);
        fault("hand abcdefgh;", 3, 5);
        // Of one TOKEN the least: 2 rather than 3, 2 rather than 4.
        fault("hand ((((((xyz))))));", 2, 11);
        fault("hand ((((((or))))));", 2, 11);
        fault("mark 12;mark 13;mark 14;mark 15;mark 16;mark 17;mark 17;", 2, 48);
        fault("hand 1 xyz;", 1, 7);
        fault("stay hole;", 1, 5);
    }

    // ---- promise 3, rules

    private static final String[] WORDS = {"from", "go", "stay", "behind", "him", "her", "mark", "hole", "lag",
        "wrist", "eye", "ring", "shows", "hand", "or", "and", "inch", "off", "seen", "was", "tenth", "x"};

    private static void values(String rule, String its) {
        for (String word : WORDS) {
            boolean may = (" " + its + " ").contains(" " + word + " ");
            RingHand x = new RingHand();
            int place = rule.length() + 1;
            due(tell(x, rule + " " + word + ";"), may ? 0 : 3);
            due(x.fault(), may ? -1 : place);
            due(tell(x, rule + " not (1+" + word + ");"), may ? 0 : 3);
            due(x.fault(), may ? -1 : place + 7);
        }
    }

    @Sentence(promise = 3, says = "3 any word where a PART must stand that is no VALUE of this EXPR")
    static void valuesOfRules() {
        values("ring", "inch");
        values("shows", "off hole inch");
        values("hand", "seen was ring tenth mark");
        fault("hand 1+not 1;", 3, 7);
        fault("hand 1*not 1;", 3, 7);
        fault("hand 1<not 1;", 3, 7);
        fault("hand 1=not 1;", 3, 7);
        fault("hand 1 or or 1;", 3, 10);
        fault("hand 1 and and 1;", 3, 11);
        fault("hand not or;", 3, 9);
        // Behind a whole PART no PART must stand, and no word can but 'or' and 'and'.
        fault("hand 1 seen;", 1, 7);
        fault("hand 1 not 1;", 1, 7);
        fault("hand (1) xyz;", 1, 9);
        // What is no word is FAULT 1 there.
        fault("hand );", 1, 5);
        fault("hand ();", 1, 6);
        fault("hand <1;", 1, 5);
        fault("hand -1;", 1, 5);
        fault("hand 1+-1;", 1, 7);
    }

    @Sentence(promise = 3, says = "of an EXPR within 6 others (a NUMBER, any word, a parenthesis)")
    static void exprsWithinOthers() {
        for (String rule : new String[] {"ring ", "shows ", "hand "}) {
            int at = rule.length() + 6;
            told(rule + "(((((1)))));");
            fault(rule + "((((((1))))));", 2, at);
            fault(rule + "((((((12345))))));", 2, at);
            fault(rule + "((((((xyz))))));", 2, at);
            fault(rule + "((((((not 1))))));", 2, at);
            fault(rule + "((((((and))))));", 2, at);
            fault(rule + "(((((((1)))))));", 2, at);
            // What can't begin an EXPR is FAULT 1.
            fault(rule + "(((((()", 1, at);
            fault(rule + "((((((;", 1, at);
            fault(rule + "((((((+1", 1, at);
            fault(rule + "((((((?", 1, at);
            fault(rule + "((((((", 1, at);
        }
        told("hand (((((seen)))))+(((((was)))));");
        fault("hand (((((seen)))))+((((((was", 2, 26);
        due(told("ring " + "(1)+".repeat(99) + "(1);").turn(12), 100);
        // 'not' and signs are no EXPRS of their own.
        told("hand (not(not(not(not(not 1<2)))));");
        fault("hand not(not(not(not(not(not(1<2))))));", 2, 29);
    }

    @Sentence(promise = 3, says = "the seventh 'not' side by side")
    static void sevenNots() {
        due(told("ring " + "not ".repeat(6) + "7;").turn(12), 1);
        due(told("ring " + "not ".repeat(5) + "7;").turn(12), 0);
        fault("ring " + "not ".repeat(7) + "7;", 2, 29);
        fault("ring " + "not ".repeat(7), 2, 29);
        fault("ring " + "not ".repeat(8) + "7;", 2, 29);
        fault("ring 1 and " + "not ".repeat(7) + "7;", 2, 35);
        fault("ring 1 or " + "not ".repeat(7) + "7;", 2, 34);
        fault("ring (" + "not ".repeat(7) + "7);", 2, 30);
        // A parenthesis, an 'and' or an 'or' between them ends the row.
        String six = "not ".repeat(6);
        due(told("ring " + six + "(" + six + "7);").turn(12), 1);
        due(told("ring " + six + "7 and " + six + "7 or " + six + "7;").turn(12), 1);
        fault("ring " + "not ".repeat(6) + "or", 3, 29);
        fault("ring " + "not ".repeat(6) + ";", 1, 29);
    }

    @Sentence(promise = 3, says = "NOT: 'not' NOT | SUM [('<' | '=') SUM].")
    static void oneTestAtMost() {
        due(told("ring 1+1<3;").turn(12), 1);
        fault("ring 1<2<3;", 1, 8);
        fault("ring 1=2=3;", 1, 8);
        fault("ring 1<2=3;", 1, 8);
        fault("ring 1<=2;", 1, 7);
        due(told("ring (1<2)=1;").turn(12), 1);
        due(told("ring 1<2 and 2<3;").turn(12), 1);
    }

    private static void gives(String expr, int want) {
        due(told("ring " + expr + ";").turn(12), want);
    }

    @Sentence(promise = 3, says = "ints that wrap, / cut down to 0, by 0 gives 0")
    static void edgesOfArithmetic() {
        gives("7/0", 0);
        gives("0/0", 0);
        gives("5+7/(inch-12)", 5);
        gives("7/2", 3);
        gives("10+(0-7)/2", 7);
        gives("10+7/(0-2)", 7);
        gives("10+(0-7)/(0-2)", 13);
        // 2147483647 and one more.
        gives("2048*2048*512-1<0", 0);
        gives("2048*2048*512<0", 1);
        gives("2048*2048*512=0-2048*2048*512", 1);
        gives("2048*2048*512/(0-1)<0", 1);
        gives("2048*2048*1024=0", 1);
        gives("2048*2048*512-1=0-2048*2048*512-1", 1);
    }

    @Sentence(promise = 3, says = "tests, not, and, or are 1 or 0 (what isn't 0 holds)")
    static void whatHolds() {
        gives("not 0", 1);
        gives("not 1", 0);
        gives("not (0-1)", 0);
        gives("(0-1) and 2", 1);
        gives("(0-1) and 0", 0);
        gives("0 and 7", 0);
        gives("0 or (0-1)", 1);
        gives("7 or 0", 1);
        gives("0 or 0", 0);
        gives("2<3", 1);
        gives("3<3", 0);
        gives("3=3", 1);
        gives("3=4", 0);
    }

    @Sentence(promise = 3, says = "PART: NUMBER | VALUE | '(' EXPR ')'.")
    static void deepestRule() {
        // In each of six EXPRS, one within the other, a value waits at every step: or, and, <, +, *.
        String open = "0 or 1 and 0<0+1*(".repeat(5);
        String close = ")".repeat(5);
        gives(open + "0 or 1 and 12<1+1*inch" + close, 1);
        gives(open + "0 or 1 and 13<1+1*inch" + close, 0);
        gives("1-(1-(1-(1-(1-(1-inch/12)))))+3*(2+2*(2+2*(2+2*(2+2*(1)))))", 1 + 138);
        gives("1-(1-(1-(1-(1-(1-inch/13)))))+3*(2+2*(2+2*(2+2*(2+2*(0)))))", 90);
    }

    // ---- promise 4

    @Sentence(promise = 4, says = "The place of the latest scene()'s FAULT; NONE without.")
    static void placeOfFault() {
        RingHand x = new RingHand();
        due(x.fault(), -1);
        due(tell(x, "?"), 1);
        due(x.fault(), 0);
        due(tell(x, " ".repeat(699) + "?"), 1);
        due(x.fault(), 699);
        due(tell(x, " ".repeat(696) + "stay"), 1);
        due(x.fault(), 700);
        // A call that throws is no scene() that was told.
        bad(() -> x.scene(1));
        due(x.fault(), 700);
        due(tell(x, "stay 100;"), 2);
        due(x.fault(), 5);
        due(x.fault(), 5);
        due(x.scene(0), 0);
        due(x.fault(), -1);
        bad(() -> x.scene(-1));
        due(x.fault(), -1);
    }
}
