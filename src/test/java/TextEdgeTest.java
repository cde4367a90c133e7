/** Promise 4 and the terms of a text: each edge of its tokens, its form, and its faults. */
public final class TextEdgeTest {
    private static final Report REPORT = new Report();
    private static final String[] WORDS = {"legs", "part", "rung", "gate", "back", "maybe", "use",
        "upside", "turned", "times"};
    private static final String FOUR_OPEN = "legs 2;" + Texts.times("times 1{", 4);
    private static final String EIGHT_PARTS = "legs 2;part a{}part b{}part c{}part d{}part e{}"
            + "part f{}part g{}part h{}";
    /** 3 tokens, 131 times 3, and 4. */
    private static final String MOST_TOKENS = "legs2;" + Texts.times("rung0;", 131) + "times 1{}";
    private static final String TWO_HUNDRED = "times 10{times 20{rung 0;}}";
    private static final String TWENTY_MAYBES = "times 20{maybe 0 1 2;}";

    /** The text has this fault and changes nothing, and a right one behind it is read. */
    private static void faulty(String text, int fault, int place) {
        LadderLots x = Texts.with("legs 3;maybe 1 2 4;");
        x.log(0, 1, 2);
        REPORT.due("read of <" + text + ">", Texts.read(x, text), fault);
        REPORT.due("place in <" + text + ">", x.place(), place);
        REPORT.due("ladders behind <" + text + ">", x.count(0), 1);
        REPORT.due("logs behind <" + text + ">", x.count(1), 1);
        REPORT.due("bytes behind <" + text + ">", x.count(2), 0);
        REPORT.same("elements behind <" + text + ">", Texts.elements(x, 0), "m1");
        REPORT.due("a right text behind <" + text + ">", Texts.read(x, "legs 4;back 2;"), 0);
        REPORT.due("its place", x.place(), -1);
        REPORT.due("its legs", x.ladder(1, 0), 4);
        REPORT.same("its elements", Texts.elements(x, 1), "b2");
    }

    /** The text is a ladder of these elements. */
    private static void right(String text, String elements) {
        LadderLots x = new LadderLots();
        REPORT.due("read of <" + text + ">", Texts.read(x, text), 0);
        REPORT.due("place in <" + text + ">", x.place(), -1);
        REPORT.due("ladders behind <" + text + ">", x.count(0), 1);
        REPORT.same("elements of <" + text + ">", Texts.elements(x, 0), elements);
    }

    /** The text is a ladder with so many elements and maybes. */
    private static void holding(String text, int elements, int maybes) {
        LadderLots x = new LadderLots();
        REPORT.due("read of <" + text + ">", Texts.read(x, text), 0);
        REPORT.due("elements of <" + text + ">", x.ladder(0, 1), elements);
        REPORT.due("maybes of <" + text + ">", x.ladder(0, 2), maybes);
    }

    private static void lengths() {
        REPORT.test("4 a text of 2,000 bytes is read to its last one", () -> {
            right("legs 3;" + " ".repeat(1985) + "rung  1;", "r1");
            right("legs 3;" + " ".repeat(1993), "");
            faulty("legs 3;" + " ".repeat(1992) + "?", 1, 1999);
        });
        REPORT.test("4 an empty text has its fault at its end", () -> faulty("", 1, 0));
        REPORT.test("4 a text of blanks has its fault at its end", () -> {
            faulty(" ", 1, 1);
            faulty("\n\t \r", 1, 4);
            faulty(" ".repeat(2000), 1, 2000);
        });
    }

    private static void bytes() {
        REPORT.test("4 blanks are 9, 10, 13 and 32, each alone and all of them", () -> {
            for (String blank : new String[] {"\t", "\n", "\r", " ", "\t\n\r  "}) {
                right(("legs 3 ;part a { rung 1 ; } use a upside turned ;"
                        + "times 2 { maybe 0 1 2 ; } ").replace(" ", blank), "r0m0m0");
            }
        });
        REPORT.test("4 no other byte is a blank", () -> {
            for (int sign = 0; sign < 256; sign++) {
                if (sign != 9 && sign != 10 && sign != 13 && sign != 32) {
                    faulty("legs 3;" + (char) sign, 1, 7);
                }
            }
        });
        REPORT.test("4 letters are a to z", () -> {
            right("legs 3;part az{rung 0;}use az;", "r0");
            for (char letter = 'a'; letter <= 'z'; letter++) {
                right("legs 3;part " + letter + "{rung 1;}use " + letter + ";", "r1");
            }
            for (int sign : new int[] {'a' - 1, '@', 'A', 'Z', '[', '_', '|', '~', 127,
                'a' + 128, 'z' + 128, 255}) {
                faulty("legs 3;part " + (char) sign + "{}", 1, 12);
                faulty("legs 3;part a" + (char) sign + "{}", 1, 13);
            }
        });
        REPORT.test("4 digits are 0 to 9", () -> {
            for (int digit = 0; digit <= 9; digit++) {
                if (digit >= 2 && digit <= 7) {
                    right("legs " + digit + ";", "");
                } else {
                    faulty("legs " + digit + ";", 5, 5);
                }
            }
            for (int sign : new int[] {'0' - 1, '9' + 1, '0' + 128, '7' + 128, '-', '+', '.'}) {
                faulty("legs " + (char) sign + ";", 1, 5);
                faulty("legs " + (char) sign + "3;", 1, 5);
                faulty("legs 3" + (char) sign + ";", 1, 6);
            }
        });
        REPORT.test("4 signs are ; { and } alone", () -> {
            right("legs 3;times 1{}", "");
            for (int sign : new int[] {':', '<', 'z' + 1 + 128, '(', ')', '[', ']', ',', '.'}) {
                faulty("legs 3" + (char) sign, 1, 6);
                faulty("legs 3;times 1" + (char) sign + "}", 1, 14);
                faulty("legs 3;times 1{" + (char) sign, 1, 15);
            }
        });
        REPORT.test("4 a byte above 127 is no letter, digit, or blank", () -> {
            faulty("\u00ecegs 3;", 1, 0);
            faulty("legs\u00a03;", 1, 4);
            faulty("legs 3\u00bb", 1, 6);
        });
    }

    private static void tokens() {
        REPORT.test("4 tokens with no blanks between them", () -> right(
                "legs7;part\tab{rung0;gate 5;}use ab turned;times2{back3;maybe4 0 1;}",
                "r5b0b3m4b3m4"));
        REPORT.test("4 a token is the longest that can be", () -> {
            faulty("legs 3;rungrung 1;", 1, 7);
            faulty("legs 3;rungs 1;", 1, 7);
            faulty("legs 3;part a{}useaa;", 1, 15);
            faulty("legs 3;part a{}use aupside;", 4, 19);
            faulty("legs 3;maybe 012;", 1, 16);
            faulty("legs 3;maybe 0 12;", 1, 17);
        });
        REPORT.test("4 a NAME has 8 letters at most", () -> {
            right("legs 3;part abcdefgh{rung 1;}use abcdefgh;", "r1");
            right("legs 3;part zzzzzzzz{rung 1;}use zzzzzzzz;", "r1");
            faulty("legs 3;part abcdefghi{}", 1, 12);
            faulty("legs 3;part abcdefgh{}use abcdefghi;", 1, 26);
            faulty("legs 3;part " + "a".repeat(64) + "{}", 1, 12);
            faulty("legs 3;part " + "a".repeat(1000) + "{}", 1, 12);
        });
        REPORT.test("4 NAMES are told apart by each of 8 letters", () -> {
            right("legs 3;part abcdefgh{rung 0;}part abcdefgi{rung 1;}part bbcdefgh{gate 0;}"
                    + "part abcdefg{gate 1;}use abcdefgi;use abcdefgh;use abcdefg;use bbcdefgh;",
                    "r1r0g1g0");
            right("legs 3;part a{rung 0;}part aa{rung 1;}part aaaaaaaa{back 0;}use aa;use a;"
                    + "use aaaaaaaa;", "r1r0b0");
        });
        REPORT.test("4 a NAME is none of the words", () -> {
            for (String word : WORDS) {
                faulty("legs 3;part " + word + "{}", 1, 12);
                faulty("legs 3;use " + word + ";", 1, 11);
            }
        });
        REPORT.test("4 a word with a letter more or less is a NAME", () -> {
            for (String word : WORDS) {
                for (String name : new String[] {word + "s", word.substring(1),
                    word.substring(0, word.length() - 1)}) {
                    right("legs 3;part " + name + "{rung 1;}use " + name + ";", "r1");
                }
            }
        });
        REPORT.test("4 an INT has 1 to 4 digits", () -> {
            right("legs 3;rung 0;rung 01;rung 001;rung 0001;", "r0r1r1r1");
            right("legs 0007;maybe 0005 0000 0004;times 0002{gate 0;}", "m5g0g0");
            faulty("legs 00003;", 1, 5);
            faulty("legs 3;rung 00001;", 1, 12);
            faulty("legs 3;maybe 00000 1 2;", 1, 13);
            faulty("legs 3;maybe 0 00001 2;", 1, 15);
            faulty("legs 3;maybe 0 1 00002;", 1, 17);
            faulty("legs 3;times 00001{}", 1, 13);
            faulty("legs 3;rung ;", 1, 12);
            faulty("legs 3;rung 4294967297;", 1, 12);
            faulty("legs 3;rung 18446744073709551617;", 1, 12);
        });
        REPORT.test("4 an INT of 4 digits is a number up to 9999", () -> {
            faulty("legs 9999;", 5, 5);
            faulty("legs 3;rung 9999;", 5, 12);
            faulty("legs 3;maybe 0 0 9999;", 5, 17);
            faulty("legs 3;maybe 0 9999 4;", 5, 15);
            faulty("legs 3;times 9999{}", 5, 13);
        });
    }

    private static void form() {
        REPORT.test("4 SYNTAX: no text begins so", () -> {
            for (String text : new String[] {"rung 0;", "part a{}", "Legs 3;", "3;", ";", "}",
                "?", "abc", "legss 3;", "leg 3;"}) {
                faulty(text, 1, 0);
            }
        });
        REPORT.test("4 SYNTAX at the end of what is cut off", () -> {
            String[] whole = {"legs", "5", ";", "part", "a", "{", "rung", "1", ";", "maybe", "0",
                "1", "2", ";", "}", "use", "a", "upside", "turned", ";", "times", "2", "{",
                "back", "3", ";", "use", "a", ";", "}", "gate", "0", ";"};
            StringBuilder text = new StringBuilder();
            for (int i = 0; i < whole.length; i++) {
                boolean ended = i == 3 || i == 15 || i == 20 || i == 30;
                if (ended) {
                    REPORT.due("read of <" + text + ">", Texts.read(new LadderLots(),
                            text.toString()), 0);
                } else {
                    faulty(text.toString(), 1, text.length());
                }
                text.append(whole[i]).append(' ');
            }
            right(text.toString(), "m3r2b3r1m0b3r1m0g0");
        });
        REPORT.test("4 SYNTAX: what no TELL begins with", () -> {
            for (String token : new String[] {"legs 3;", "upside", "turned", "abc", "1", ";", "{",
                "}", "?"}) {
                faulty("legs 3;" + token, 1, 7);
                faulty("legs 3;rung 1;" + token, 1, 14);
            }
            for (String token : new String[] {"legs 3;", "part b{}", "upside", "b", "1", ";", "{"}) {
                faulty("legs 3;part a{" + token, 1, 14);
                faulty("legs 3;times 2{" + token, 1, 15);
            }
        });
        REPORT.test("4 SYNTAX in rung, gate and back", () -> {
            for (String word : new String[] {"rung", "gate", "back"}) {
                faulty("legs 3;" + word + ";", 1, 11);
                faulty("legs 3;" + word + " a;", 1, 12);
                faulty("legs 3;" + word + " 1 1;", 1, 14);
                faulty("legs 3;" + word + " 1}", 1, 13);
            }
        });
        REPORT.test("4 SYNTAX in maybe", () -> {
            faulty("legs 3;maybe;", 1, 12);
            faulty("legs 3;maybe 0;", 1, 14);
            faulty("legs 3;maybe 0 1;", 1, 16);
            faulty("legs 3;maybe 0 1 2 3;", 1, 19);
        });
        REPORT.test("4 SYNTAX in use", () -> {
            right("legs 3;part a{gate 0;rung 0;}use a;use a upside;use a turned;"
                    + "use a upside turned;", "g0r0" + "r0g0" + "b1r1" + "r1b1");
            faulty("legs 3;part a{}use;", 1, 18);
            faulty("legs 3;part a{}use 1;", 1, 19);
            faulty("legs 3;part a{}use a a;", 1, 21);
            faulty("legs 3;part a{}use a turned upside;", 1, 28);
            faulty("legs 3;part a{}use a upside upside;", 1, 28);
            faulty("legs 3;part a{}use a turned turned;", 1, 28);
            faulty("legs 3;part a{}use a upside turned upside;", 1, 35);
            faulty("legs 3;part a{}use upside;", 1, 19);
        });
        REPORT.test("4 SYNTAX in times and part", () -> {
            faulty("legs 3;times{}", 1, 12);
            faulty("legs 3;times a{}", 1, 13);
            faulty("legs 3;times 1;", 1, 14);
            faulty("legs 3;times 1 1{}", 1, 15);
            faulty("legs 3;part{}", 1, 11);
            faulty("legs 3;part 1{}", 1, 12);
            faulty("legs 3;part a;", 1, 13);
            faulty("legs 3;part a b{}", 1, 14);
        });
        REPORT.test("4 SYNTAX: a part is in no part and in no times", () -> {
            faulty("legs 3;part a{part b{}}", 1, 14);
            faulty("legs 3;part a{times 1{part b{}}}", 1, 22);
            faulty("legs 3;times 1{part b{}}", 1, 15);
            right("legs 3;times 1{}part a{rung 0;}times 1{use a;}", "r0");
        });
        REPORT.test("4 SYNTAX: as many } as {", () -> {
            faulty("legs 3;}", 1, 7);
            faulty("legs 3;times 1{}}", 1, 16);
            faulty("legs 3;part a{}}", 1, 15);
            faulty("legs 3;times 1{times 1{}", 1, 24);
            faulty("legs 3;part a{times 1{}", 1, 23);
        });
    }

    private static void room() {
        REPORT.test("4 ROOM: 400 TOKENS are read, a 401st is not", () -> {
            holding(MOST_TOKENS, 131, 0);
            faulty(MOST_TOKENS + "rung 0;", 2, MOST_TOKENS.length());
            faulty(MOST_TOKENS + " part a{}", 2, MOST_TOKENS.length() + 1);
            String open = MOST_TOKENS.replace("times 1{}", "rung0;");
            faulty(open + "rung 0;", 2, open.length() + 5);
            faulty(open + "times 1{}", 2, open.length() + 6);
        });
        REPORT.test("4 ROOM: 400 TOKENS that are cut off are SYNTAX", () -> {
            String open = MOST_TOKENS.replace("times 1{}", "rung0;");
            faulty(open + "rung", 1, open.length() + 4);
        });
        REPORT.test("4 ROOM: SYNTAX of the 401st TOKEN is less", () -> {
            for (String token : new String[] {"}", ";", "?", "1", "abcdefghi", "legs"}) {
                faulty(MOST_TOKENS + token, 1, MOST_TOKENS.length());
            }
        });
        REPORT.test("4 ROOM ahead of SYNTAX behind it, and the other way", () -> {
            faulty(MOST_TOKENS + "rung 0;?", 2, MOST_TOKENS.length());
            faulty(MOST_TOKENS.replaceFirst("rung0;", "rung ;") + "rung 0;", 1, 11);
        });
        REPORT.test("4 ROOM: 8 parts are read, a 9th is not, at its first TOKEN", () -> {
            right(EIGHT_PARTS + "rung 0;", "r0");
            faulty(EIGHT_PARTS + "rung 0;  part i{}", 2, EIGHT_PARTS.length() + 9);
            faulty(EIGHT_PARTS + "part a{}", 2, EIGHT_PARTS.length());
            faulty(EIGHT_PARTS + "part", 2, EIGHT_PARTS.length());
            faulty(EIGHT_PARTS + "part ?", 2, EIGHT_PARTS.length());
        });
        REPORT.test("4 ROOM: SYNTAX of a 9th part in the 8th is less", () -> {
            String open = EIGHT_PARTS.substring(0, EIGHT_PARTS.length() - 1);
            faulty(open + "part i{}}", 1, open.length());
        });
        REPORT.test("4 ROOM: 4 { within one another are read, a 5th is not", () -> {
            right(FOUR_OPEN + "rung 0;}}}}", "r0");
            faulty(FOUR_OPEN + "times 1{}}}}}", 2, FOUR_OPEN.length() + 7);
            faulty(FOUR_OPEN + "times 1 {", 2, FOUR_OPEN.length() + 8);
        });
        REPORT.test("4 ROOM: the { of a part is one of them", () -> {
            String open = "legs 2;part a{" + Texts.times("times 1{", 3);
            right(open + "rung 0;}}}}use a;", "r0");
            faulty(open + "times 1{}}}}}", 2, open.length() + 7);
        });
        REPORT.test("4 ROOM: a { that has its } is within none", () -> {
            right("legs 2;" + Texts.times("times 1{times 1{times 1{times 1{}}times 1{}}}", 3), "");
            right(FOUR_OPEN + "}times 1{}}times 1{times 1{}}}}", "");
        });
        REPORT.test("4 ROOM: SYNTAX of a 5th { is less", () -> {
            faulty(FOUR_OPEN + "{", 1, FOUR_OPEN.length());
            faulty(FOUR_OPEN + "times{", 1, FOUR_OPEN.length() + 5);
        });
        REPORT.test("4 SYNTAX and ROOM are ahead of all others, wherever they are", () -> {
            faulty("legs 9;rung 9;use q;times 21{}?", 1, 30);
            faulty("legs 2;part a{}part a{}rung 0", 1, 29);
            String parts = EIGHT_PARTS.replace("legs 2", "legs 9");
            faulty(parts + "part i{}", 2, parts.length());
            String tokens = MOST_TOKENS.replaceFirst("rung0", "rung1");
            faulty(tokens + "rung0;", 2, tokens.length());
        });
    }

    private static void names() {
        REPORT.test("4 TWICE: a NAME told already, at it", () -> {
            faulty("legs 3;part a{}part a{}", 3, 20);
            faulty("legs 3;part a{}part b{}part  a{}", 3, 29);
            faulty("legs 3;part abcdefgh{}part abcdefgh{}", 3, 27);
            faulty(EIGHT_PARTS.replace("part h", "part a"), 3, EIGHT_PARTS.length() - 3);
            faulty(EIGHT_PARTS.replace("part h", "part g"), 3, EIGHT_PARTS.length() - 3);
        });
        REPORT.test("4 NAME: a use of a part told ahead", () -> {
            right("legs 3;part a{rung 0;}part b{rung 1;use a;}use b;use a;", "r1r0r0");
            right(EIGHT_PARTS.replace("part h{", "part h{rung 0;") + "use h;use a;", "r0");
        });
        REPORT.test("4 NAME: a use of no part, at its NAME", () -> {
            faulty("legs 3;use a;", 4, 11);
            faulty("legs 3;part a{}use  b upside turned;", 4, 20);
            faulty("legs 3;part a{}times 0{use b;}", 4, 27);
            faulty("legs 3;part a{}part b{use c;}", 4, 26);
        });
        REPORT.test("4 NAME: a use ahead of the part", () -> {
            faulty("legs 3;use a;part a{}", 4, 11);
            faulty("legs 3;part b{use a;}part a{}use b;", 4, 18);
        });
        REPORT.test("4 NAME: a use ahead of the part's }", () -> {
            faulty("legs 3;part a{use a;}", 4, 18);
            faulty("legs 3;part a{times 1{}rung 0;use a;}", 4, 34);
            faulty("legs 3;part b{}part a{times 2{use a;}}", 4, 34);
        });
    }

    private static void wrongs() {
        REPORT.test("4 WRONG: legs of 2 to 7", () -> {
            faulty("legs 0;", 5, 5);
            faulty("legs 1;", 5, 5);
            right("legs 2;", "");
            right("legs 7;", "");
            faulty("legs  8;", 5, 6);
            faulty("legs 10;", 5, 5);
        });
        REPORT.test("4 WRONG: legs come ahead of all that is wrong by them", () -> {
            faulty("legs 1;rung 0;rung 6;use a;", 5, 5);
            faulty("legs 8;rung 6;part a{}part a{}", 5, 5);
        });
        REPORT.test("4 WRONG: k up to n - 2 of each element, and not n - 1", () -> {
            for (int n = 2; n <= 7; n++) {
                String legs = "legs " + n + ";";
                right(legs + "rung " + (n - 2) + ";gate " + (n - 2) + ";back " + (n - 2)
                        + ";maybe " + (n - 2) + " 1 1;", "rx gx bx mx".replace("x",
                        "" + (n - 2)).replace(" ", ""));
                faulty(legs + "rung " + (n - 1) + ";", 5, 12);
                faulty(legs + "gate " + (n - 1) + ";", 5, 12);
                faulty(legs + "back " + (n - 1) + ";", 5, 12);
                faulty(legs + "maybe " + (n - 1) + " 1 1;", 5, 13);
            }
        });
        REPORT.test("4 WRONG: k in a part without use, and in times 0", () -> {
            faulty("legs 3;part a{rung 2;}", 5, 19);
            faulty("legs 3;times 0{rung 2;}", 5, 20);
        });
        REPORT.test("4 WRONG: b of a maybe is 1 to 4", () -> {
            faulty("legs 3;maybe 0 0 0;", 5, 17);
            right("legs 3;maybe 0 0 1;maybe 0 0 2;maybe 0 0 3;maybe 0 0 4;", "m0m0m0m0");
            faulty("legs 3;maybe 0 0 5;", 5, 17);
            faulty("legs 3;maybe 0 5 5;", 5, 17);
            faulty("legs 3;maybe 0 0 8;", 5, 17);
        });
        REPORT.test("4 WRONG: a of a maybe is b at most", () -> {
            for (int b = 1; b <= 4; b++) {
                right("legs 3;maybe 1 " + b + " " + b + ";", "m1");
                faulty("legs 3;maybe 1 " + (b + 1) + " " + b + ";", 5, 15);
            }
        });
        REPORT.test("4 WRONG: an a above a b that is wrong too", () -> {
            faulty("legs 3;maybe 0 1 0;", 5, 15);
            faulty("legs 3;maybe 0 6 5;", 5, 15);
            faulty("legs 3;maybe 2 6 5;", 5, 13);
        });
        REPORT.test("4 WRONG: times up to 20", () -> {
            right("legs 2;times 0{rung 0;}", "");
            right("legs 2;times 1{rung 0;}", "r0");
            holding("legs 2;times 20{rung 0;}", 20, 0);
            faulty("legs 2;times 21{rung 0;}", 5, 13);
            faulty("legs 2;part a{times 21{}}", 5, 20);
        });
        REPORT.test("4 of 3 to 6 the first by its place", () -> {
            faulty("legs 3;use q;rung 2;", 4, 11);
            faulty("legs 3;rung 2;use q;", 5, 12);
            faulty("legs 3;part a{}part a{rung 2;}", 3, 20);
            faulty("legs 3;part a{rung 2;}part a{}", 5, 19);
        });
    }

    private static void longs() {
        REPORT.test("4 LONG: a part of 200 ELEMENTS, and of 201, at its NAME", () -> {
            holding("legs 2;part a{" + TWO_HUNDRED + "}use a;", 200, 0);
            faulty("legs 2;part a{" + TWO_HUNDRED + "gate 0;}", 6, 12);
            faulty("legs 2;part a{gate 0;" + TWO_HUNDRED + "}", 6, 12);
            faulty("legs 2;part b{rung 0;}part a{" + TWO_HUNDRED + "use b;}", 6, 27);
        });
        REPORT.test("4 LONG: a part of 20 MAYBES, and of 21", () -> {
            holding("legs 2;part a{" + TWENTY_MAYBES + "rung 0;}use a;", 21, 20);
            faulty("legs 2;part a{" + TWENTY_MAYBES + "maybe 0 0 1;}", 6, 12);
            faulty("legs 2;part a{times 7{maybe 0 1 1;maybe 0 0 1;maybe 0 1 3;}}", 6, 12);
        });
        REPORT.test("4 LONG: a part that goes back to few by times 0", () -> {
            holding("legs 2;part a{times 0{" + TWO_HUNDRED + TWO_HUNDRED + "}rung 0;}use a;", 1, 0);
            holding("legs 2;times 0{" + TWENTY_MAYBES + TWENTY_MAYBES + "}maybe 0 1 2;", 1, 1);
        });
        REPORT.test("4 LONG: a ladder of 200 ELEMENTS, and of 201, at its TELL", () -> {
            holding("legs 2;" + TWO_HUNDRED, 200, 0);
            faulty("legs 2;" + TWO_HUNDRED + " gate 0;", 6, 35);
            faulty("legs 2;rung 0; " + TWO_HUNDRED, 6, 15);
            faulty("legs 2;times 1{rung 0;" + TWO_HUNDRED + "}", 6, 7);
            faulty("legs 2;part a{" + TWO_HUNDRED + "}use a; use a;", 6, 49);
        });
        REPORT.test("4 LONG: a ladder of 20 MAYBES, and of 21, at its TELL", () -> {
            holding("legs 2;" + TWENTY_MAYBES + "rung 0;", 21, 20);
            faulty("legs 2;" + TWENTY_MAYBES + " maybe 0 1 2;", 6, 30);
            faulty("legs 2;maybe 0 1 2; " + TWENTY_MAYBES, 6, 20);
            faulty("legs 2;part a{" + TWENTY_MAYBES + "}maybe 0 1 1;use a;", 6, 49);
        });
        REPORT.test("4 LONG: the first TELL with which the ladder has more", () -> {
            faulty("legs 2;" + TWO_HUNDRED + "rung 0;rung 0;" + TWO_HUNDRED, 6, 34);
            faulty("legs 2;" + TWO_HUNDRED + "times 0{rung 0;}part a{}rung 0;", 6, 58);
        });
        REPORT.test("4 LONG: a TELL in times is none of those outside", () -> {
            faulty("legs 2;times 2{" + TWO_HUNDRED + "rung 0;}rung 0;", 6, 7);
            faulty("legs 2;times 20{times 20{times 20{times 20{rung 0;}}}}", 6, 7);
        });
        REPORT.test("4 LONG: TWICE at its NAME is less, and LONG ahead of what is behind", () -> {
            faulty("legs 2;part a{}part a{" + TWO_HUNDRED + "rung 0;}", 3, 20);
            faulty("legs 2;part a{rung 1;" + TWO_HUNDRED + "}", 6, 12);
            faulty("legs 2;times 2{use q;" + TWO_HUNDRED + "}", 6, 7);
            faulty("legs 2;use q;" + TWO_HUNDRED + "rung 0;", 4, 11);
        });
        REPORT.test("4 LONG: no times makes so many that they are few again", () -> {
            String text = "rung 0;";
            for (int i = 0; i < 4; i++) {
                text = "times 9999{" + text + "}";
            }
            faulty("legs 2;" + text, 6, 7);
            faulty("legs 2;part a{" + text.replaceFirst("times 9999\\{(.*)\\}", "$1") + "}", 6, 12);
            faulty("legs 2;times 8192{times 8192{times 8192{times 8192{rung 0;}}}}", 6, 7);
        });
    }

    public static void main(String[] args) {
        lengths();
        bytes();
        tokens();
        form();
        room();
        names();
        wrongs();
        longs();
        REPORT.exit();
    }
}
