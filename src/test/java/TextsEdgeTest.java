/** Boundaries of promises 9 to 12: the tape, the texts of a PLAIN and of ORDERS, their FAULTS. */
public final class TextsEdgeTest extends Bench {
    private static final String[] KEPT_WORDS = {"size", "most", "least", "price", "village", "sees", "raise", "lower", "by",
        "storm", "when", "cell", "at", "same", "stone", "loop", "end", "stop", "n", "ne", "e", "se", "s", "sw", "w", "nw"};

    private static String blanks(int many) {
        return " ".repeat(many);
    }

    // ---- promise 9

    private static void twentyBytes() {
        begin(9);
        due("the highest of each int first", x.feed(0x73697a65, 0x20312032, 0x3b6d6f73, 0x74203437, 0x3b20203b), 20);
        is("size 1 2;most 47;", x.plain(17), 2);
        is("most", x.cell(0, 0), 47);
        due("feed", x.feed(0xff73697a, 0x65203120, 0x313b2020, 0x20202020, 0x20202020), 20);
        due("bytes above 127 begin no TOKEN", x.plain(11), -1);
        due("1", x.fault(0), 1);
        due("at 0", x.fault(1), 0);
    }

    private static void atMost900() {
        begin(9);
        no("a STATUS to stay", () -> x.many(3), 5);
        String text = "size 1 1;" + blanks(884) + "most 9;";
        due("900 bytes", text.length(), 900);
        for (int k = 1; k <= 45; k++) {
            due("feed", x.feed(0x20202020, 0x20202020, 0x20202020, 0x20202020, 0x20202020), 20 * k);
        }
        due("more than 900", x.feed(0, 0, 0, 0, 0), -1);
        due("more than 900, again", x.feed(0, 0, 0, 0, 0), -1);
        due("feed has no STATUS", x.status(), 5);
        no("901", () -> x.plain(901), 5);
        due("the 900 as they were", x.plain(900), -1);
        due("blanks up to the end", x.fault(0), 2);
        due("the text's length", x.fault(1), 900);
        feed(text);
        due("full", x.feed(0, 0, 0, 0, 0), -1);
        is("all 900", x.plain(900), 1);
        is("the last ones, too", x.cell(0, 0), 9);
        feed(text);
        due("899", x.plain(899), -1);
        due("the ; is missing", x.fault(0), 2);
        due("at the end", x.fault(1), 899);
        due("empty then", x.feed(0, 0, 0, 0, 0), 20);
    }

    // ---- promise 10

    private static void firstBytesOfTheTape() {
        begin(10);
        no("none on the tape", () -> x.plain(1), 5);
        feed("size 2 3;size 1 1;");
        no("21 of 20", () -> x.plain(21), 5);
        no("-1", () -> x.plain(-1), 5);
        no("far below", () -> x.plain(MIN), 5);
        no("far above", () -> x.plain(MAX), 5);
        due("5 tells of no FAULT", x.fault(0), -1);
        is("the tape is there still", x.plain(9), 6);
        no("the rest is gone", () -> x.plain(1), 5);
        feed("size 1 1;" + blanks(31));
        is("40 of 40", x.plain(40), 1);
        feed("size 2 2;");
        due("none of 20: the end stands where size must", x.plain(0), -1);
        due("10", x.status(), 10);
        due("2", x.fault(0), 2);
        due("at 0", x.fault(1), 0);
        no("the tape is empty then", () -> x.plain(1), 5);
        due("none of none", x.plain(0), -1);
        due("10", x.status(), 10);
        is("the PLAIN stays", x.many(0), 1);
    }

    /** What lies behind the first n bytes, even in the midst of a TOKEN, is none of the text. */
    private static void noneBehindTheFirst() {
        begin(10);
        String[] tapes = {"size 1 1;most 5;", "size 1 23;", "size 1 1;least 12345;", "size 1 1;village ab n;village abc n;",
            "size 1 1;village ab n;village abc n;", "size 1 1;village a ne;", "size 1 1;village abcdefghi n;", "size 1 1;;"};
        int[] firsts = {12, 8, 19, 32, 33, 20, 25, 9};
        int[] kinds = {2, 2, 4, 3, 2, 2, 2, 0};
        int[] places = {9, 8, 15, 30, 33, 20, 25, -1};
        for (int k = 0; k < tapes.length; k++) {
            feed(tapes[k]);
            due(tapes[k], x.plain(firsts[k]), kinds[k] == 0 ? 1 : -1);
            due(tapes[k] + ": fault", x.fault(0), kinds[k]);
            due(tapes[k] + ": place", x.fault(1), places[k]);
        }
        feed("storm 10;");
        due("storm 1", x.orders(7), -1);
        due("2", x.fault(0), 2);
        due("at 7", x.fault(1), 7);
        feed("stopp;");
        due("stop", x.orders(4), -1);
        due("at 4", x.fault(1), 4);
    }

    private static void takenInPlaceOfThatAhead() {
        begin(10);
        is("a large one", plain("size 5 5;most 1 2 3 4 5;least 1 1 1 1 1;price 9 9 9 9 9;"
            + "village a n sees 1 2 3 4 5;village b ne;village c s sees 9 9 9 9 9;"), 25);
        is("orders", orders("raise 4 4 by 9;"), 1);
        is("built", x.built(0), 1);
        faultOfPlain("size 5 5;most 9 9 9 9 9;least 2 2 2 2 2;village z n;village z s;", 3, 60);
        is("a small one", plain("size 2 1;least 7 8;village b w;"), 2);
        is("width", x.many(0), 2);
        is("height", x.many(1), 1);
        is("villages", x.many(2), 1);
        townIs(7, 8);
        no("no third CELL", () -> x.height(2), 2);
        is("MOST without", x.cell(0, 0), 99);
        is("PRICE without", x.cell(0, 2), 1);
        is("no SKYLINE of the old one", x.village(0, 2), 0);
        no("no ORDERS", () -> x.built(0), 8);
        no("no ORDERS", () -> x.tally(0, 1), 8);
        is("large again", plain("size 5 5;"), 25);
        townIs(new int[25]);
        is("no VILLAGES", x.many(2), 0);
        is("MOST without", x.cell(1, 0), 99);
        is("LEAST without", x.cell(1, 1), 0);
        is("PRICE without", x.cell(1, 2), 1);
    }

    // ---- TOKENS

    /** Each of the 256 bytes where a PART, or the end, may stand. */
    private static void everyByte() {
        begin(10);
        for (int b = 0; b < 256; b++) {
            String text = "size 1 1;" + (char) b;
            boolean letter = b >= 'a' && b <= 'z';
            boolean digit = b >= '0' && b <= '9';
            boolean sign = b == ';' || b == '<' || b == '>' || b == '=';
            if (b == 10 || b == 32) {
                takenAsPlain(text, 1);
            } else {
                faultOfPlain(text, letter || digit || sign ? 2 : 1, 9);
            }
        }
    }

    private static void asLongAsTheyGo() {
        begin(10);
        takenAsPlain("size5 5;most1 2 3 4 5;village a n sees1 2 3 4 5;", 25);
        takenAsPlain("\n\n size\n\n5\n5\n;\n\n", 25);
        takenAsPlain("size 0001 0005;most 0099;least 0000;price 0001;", 5);
        takenAsPlain("size 1 1;village abcdefgh n;village abcdefgi n;village bcdefgh n;", 1);
        faultOfPlain("size 55;", 4, 5);
        faultOfPlain("size 1 1;mostly 1;", 2, 9);
        faultOfPlain("size 1 1;mos t 1;", 2, 9);
        faultOfPlain("size 1 1;village a nn;", 2, 19);
        faultOfPlain("size 1 1;village an;", 2, 19);
        faultOfPlain("size 1 1;village a n seesx 1;", 2, 21);
        faultOfPlain("size 00001 1;", 1, 5);
        faultOfPlain("size 1 00001;", 1, 7);
        faultOfPlain("size 1 1;most 00000;", 1, 14);
        faultOfPlain("size 1 1;most 99999999999999999999;", 1, 14);
        faultOfPlain("size 1 1;village a1 n;", 2, 18);
        takenAsPlain("size 1 1;village a n sees1;", 1);
    }

    // ---- the grammar of a PLAIN

    private static void sizes() {
        begin(10);
        for (int w = 1; w <= 5; w++) {
            for (int h = 1; h <= 5; h++) {
                takenAsPlain("size " + w + " " + h + ";", w * h);
                is("width", x.many(0), w);
                is("height", x.many(1), h);
            }
        }
        for (int wrong : new int[] {0, 6, 10, 99, 9999}) {
            faultOfPlain("size " + wrong + " 1;", 4, 5);
            faultOfPlain("size 1 " + wrong + ";", 4, 7);
        }
        faultOfPlain("size 6 6;", 4, 5);
        faultOfPlain("size 6", 4, 5);
        faultOfPlain("size 1 6", 4, 7);
    }

    private static void endsTooEarly() {
        begin(10);
        String whole = "size 2 1;most 1 2;village a s sees 3 4;";
        takenAsPlain(whole, 2);
        for (int n = 0; n < whole.length(); n++) {
            boolean behindPart = n == 9 || n == 18;
            if (behindPart) {
                takenAsPlain(whole.substring(0, n), 2);
            } else {
                cut(whole.substring(0, n));
            }
        }
        faultOfPlain(" \n ", 2, 3);
        faultOfPlain("size 2 1;most 1", 2, 15);
        faultOfPlain("size 2 1;most 1 2   ", 2, 20);
    }

    /** The last TOKEN, cut within, can't stand there, or the end can't. */
    private static void cut(String text) {
        int last = text.length();
        while (last > 0 && text.charAt(last - 1) >= 'a' && text.charAt(last - 1) <= 'z') {
            last--;
        }
        String word = text.substring(last);
        boolean whole = word.isEmpty() || word.equals("size") || word.equals("most") || word.equals("village")
            || word.equals("sees") || word.equals("a") || word.equals("s") && last == 28;
        faultOfPlain(text, 2, whole ? text.length() : last);
    }

    private static void rowsOfCells() {
        for (String part : new String[] {"most", "least", "price"}) {
            begin(10);
            int lowest = part.equals("price") ? 1 : 0;
            int what = part.equals("most") ? 0 : part.equals("least") ? 1 : 2;
            int without = part.equals("most") ? 99 : lowest;
            int l = ("size 2 2;" + part).length();
            takenAsPlain("size 2 2;" + part + " " + lowest + " 99;", 4);
            is("the lowest", x.cell(0, what), lowest);
            is("the greatest", x.cell(1, what), 99);
            is("without", x.cell(2, what), without);
            is("without", x.cell(3, what), without);
            faultOfPlain("size 2 2;" + part + " 100 1;", 4, l + 1);
            faultOfPlain("size 2 2;" + part + " 1 9999;", 4, l + 3);
            faultOfPlain("size 2 2;" + part + " 1;", 7, l + 2);
            faultOfPlain("size 2 2;" + part + " 1 1 1;", 6, l + 5);
            faultOfPlain("size 2 2;" + part + " 1 1 100;", 4, l + 5);
            faultOfPlain("size 2 2;" + part + " 1 1 00001;", 1, l + 5);
            faultOfPlain("size 2 2;" + part + " 1 1 =", 2, l + 5);
            faultOfPlain("size 2 2;" + part + " 1 =", 2, l + 3);
            faultOfPlain("size 2 2;" + part + " 1 #", 1, l + 3);
            faultOfPlain("size 2 2;" + part + " 1 most", 2, l + 3);
            faultOfPlain("size 2 2;" + part + " 1", 2, l + 2);
            faultOfPlain("size 2 2;" + part + ";", 2, l);
            faultOfPlain("size 2 2;" + part + " a;", 2, l + 1);
            String row = part + " 5 6;";
            takenAsPlain("size 2 2;" + row + row, 4);
            is("the second row", x.cell(3, what), 6);
            faultOfPlain("size 2 2;" + row + row + row, 6, 9 + 2 * row.length());
            faultOfPlain("size 2 2;" + row + row + part + "#", 6, 9 + 2 * row.length());
            String five = part + times(5, 7) + ";";
            takenAsPlain("size 5 5;" + five.repeat(5), 25);
            is("the last", x.cell(24, what), 7);
            faultOfPlain("size 5 5;" + five.repeat(6), 6, 9 + 5 * five.length());
        }
        begin(10);
        faultOfPlain("size 1 1;price 0;", 4, 15);
        faultOfPlain("size 1 1;price 1 0;", 4, 17);
        takenAsPlain("size 1 1;most 0;least 0;price 1;", 1);
        takenAsPlain("size 1 2;price 5;most 2;least 3;most 9;price 6;", 2);
        is("each its own k-th", x.cell(1, 0), 9);
        is("each its own k-th", x.cell(1, 1), 0);
        is("each its own k-th", x.cell(1, 2), 6);
        is("LEAST above the MOST", x.cell(0, 1), 3);
    }

    private static void names() {
        begin(10);
        for (String word : KEPT_WORDS) {
            faultOfPlain("size 1 1;village " + word + " n;", 2, 17);
            takenAsPlain("size 1 1;village q" + word + " n;", 1);
            if (word.length() < 8) {
                takenAsPlain("size 1 1;village " + word + "q n;", 1);
            }
        }
        for (int letters = 1; letters <= 8; letters++) {
            takenAsPlain("size 1 1;village " + "z".repeat(letters) + " n;", 1);
        }
        for (int letters : new int[] {9, 10, 16, 64, 100}) {
            faultOfPlain("size 1 1;village " + "z".repeat(letters) + " n;", 2, 17);
        }
        faultOfPlain("size 1 1;village 1 n;", 2, 17);
        faultOfPlain("size 1 1;village ; n;", 2, 17);
        faultOfPlain("size 1 1;village", 2, 16);
        faultOfPlain("size 1 1;village A n;", 1, 17);
        takenAsPlain("size 1 1;village a n;village aa n;village aaaaaaaa n;", 1);
        faultOfPlain("size 1 1;village ab n;village b n;village ab n;", 3, 42);
        faultOfPlain("size 1 1;village ab n;village ab", 3, 30);
        faultOfPlain("size 1 1;village abcdefgh n;village abcdefgh s;", 3, 36);
        takenAsPlain("size 1 1;village abcdefgh n;village abcdefg n;", 1);
    }

    private static void sixVillages() {
        begin(10);
        String text = "size 1 1;";
        for (int v = 0; v < 6; v++) {
            text += "village v" + (char) ('a' + v) + " n;";
            takenAsPlain(text, 1);
            is("so many", x.many(2), v + 1);
        }
        faultOfPlain(text + "village vg n;", 6, text.length());
        faultOfPlain(text + "village", 6, text.length());
        faultOfPlain(text + "village va n;", 6, text.length());
        faultOfPlain(text + "villages", 2, text.length());
        takenAsPlain(text + "most 1;", 1);
        is("at the same SIDE, too", x.village(5, 0), 0);
    }

    private static void skylines() {
        begin(10);
        for (int w = 1; w <= 5; w += 2) {
            for (int h = 1; h <= 5; h++) {
                for (int side = 0; side < 8; side++) {
                    int strips = side % 4 == 0 ? w : side % 4 == 2 ? h : w + h - 1;
                    String text = "size " + w + " " + h + ";village a " + SIDES[side] + " sees";
                    takenAsPlain(text + times(strips, 0) + ";", w * h);
                    is("so many strips", x.village(0, 1), strips);
                    takenAsPlain(text + times(strips, 99) + ";", w * h);
                    is("the last one", x.promised(0, strips - 1), 99);
                    faultOfPlain(text + times(strips, 1) + " 1;", 6, text.length() + 2 * strips + 1);
                    faultOfPlain(text + times(strips, 1) + " 100;", 4, text.length() + 2 * strips + 1);
                    faultOfPlain(text + times(strips - 1, 1) + ";", strips == 1 ? 2 : 7, text.length() + 2 * (strips - 1));
                }
            }
        }
        String six = "size 5 5;";
        for (int v = 0; v < 6; v++) {
            six += "village v" + (char) ('a' + v) + " " + SIDES[v * 2 % 8 + 1] + " sees" + times(8, v) + " 9;";
        }
        takenAsPlain(six, 25);
        for (int v = 0; v < 6; v++) {
            is("nine strips of each of six", x.promised(v, 7), v);
            is("nine strips of each of six", x.promised(v, 8), 9);
        }
        faultOfPlain("size 1 1;village a n sees 100;", 4, 26);
        faultOfPlain("size 1 1;village a n sees", 2, 25);
        faultOfPlain("size 1 1;village a n sees a;", 2, 26);
        faultOfPlain("size 1 1;village a n sees 1 sees 1;", 2, 28);
        faultOfPlain("size 1 1;village a n", 2, 20);
        faultOfPlain("size 1 1;village a n n;", 2, 21);
        faultOfPlain("size 1 1;village a sees 1;", 2, 19);
    }

    /** Of two FAULTS the first along the text; of one TOKEN the least kind. */
    private static void firstFault() {
        begin(10);
        faultOfPlain("size 9 1;#", 4, 5);
        faultOfPlain("size 1 1#most 100", 1, 8);
        faultOfPlain("size 1 1;most 1 1;most 100;", 6, 16);
        faultOfPlain("size 2 1;most 1;village n n;", 7, 15);
        faultOfPlain("size 2 1;village n n;most 1;", 2, 17);
        faultOfPlain("size 1 1;least 100 100;", 4, 15);
        faultOfPlain("size 1 1;price 1 0;", 4, 17);
        faultOfPlain("size 1 1;price 1 12345;", 1, 17);
        faultOfPlain("size 1 1;most ;", 2, 14);
        faultOfPlain("size 1 1 ;;", 2, 10);
        faultOfPlain("size 1 1;size 1 1;", 2, 9);
        faultOfPlain("size size 1;", 2, 5);
        faultOfPlain("1 size 1;", 2, 0);
        faultOfPlain("; size 1 1;", 2, 0);
        faultOfPlain("sizes 1 1;", 2, 0);
        faultOfPlain("size 1;1;", 2, 6);
        faultOfPlain("size 1 1 village a n;", 2, 9);
        faultOfPlain("size 1 1 1;", 2, 9);
        faultOfPlain("size 1 1;stop;", 2, 9);
    }

    // ---- promise 11

    private static void firstBytesAreOrders() {
        begin(11);
        is("plain", plain("size 2 2;village a s;"), 4);
        no("none on the tape", () -> x.orders(1), 5);
        feed("stop;stop;");
        no("21 of 20", () -> x.orders(21), 5);
        no("-1", () -> x.orders(-1), 5);
        no("far below", () -> x.orders(MIN), 5);
        no("far above", () -> x.orders(MAX), 5);
        due("5 tells of no FAULT", x.fault(0), 0);
        is("the tape is there still", x.orders(5), 1);
        no("the rest is gone", () -> x.orders(1), 5);
        String stop = "stop" + blanks(295) + ";";
        due("300 bytes", stop.length(), 300);
        takenAsOrders(stop, 1);
        feed(stop + " ");
        no("301, though they are there", () -> x.orders(301), 5);
        no("320", () -> x.orders(320), 5);
        is("300 of 320", x.orders(300), 1);
        feed(blanks(900));
        no("900", () -> x.orders(900), 5);
        is("none but blanks", x.orders(300), 0);
        is("no STEPS are ORDERS, too", x.built(0), 0);
        feed("stop;");
        is("the first none", x.orders(0), 0);
        no("the tape is empty then", () -> x.orders(1), 5);
        is("none of none", x.orders(0), 0);
        due("no fault", x.fault(0), 0);
        due("no place", x.fault(1), -1);
    }

    private static void thirtySteps() {
        begin(11);
        is("plain", plain("size 2 2;village a s;"), 4);
        takenAsOrders("stop;".repeat(30), 30);
        faultOfOrders("stop;".repeat(31), 6, 150);
        faultOfOrders("stop;".repeat(30) + "raise 9 9;", 6, 150);
        faultOfOrders("stop;".repeat(30) + "end;", 2, 150);
        faultOfOrders("stop;".repeat(30) + "go;", 2, 150);
        faultOfOrders("stop;".repeat(30) + "#", 1, 150);
        takenAsOrders("stop;".repeat(27) + "loop 1;loop 1;loop 1;end;end;end;", 30);
        takenAsOrders("loop 9;end;".repeat(27), 27);
        String full = "loop 1;".repeat(3) + "stop;".repeat(27);
        takenAsOrders(full + "end;end;end;", 30);
        faultOfOrders(full + "loop 1;end;end;end;end;", 6, full.length());
        faultOfOrders(full + "stop;end;end;end;", 6, full.length());
        String tens = "when same a;".repeat(3) + "end;".repeat(3);
        takenAsOrders(tens.repeat(6), 18);
        String thirtyEnds = "loop9;end;".repeat(30);
        due("300 bytes", thirtyEnds.length(), 300);
        takenAsOrders(thirtyEnds, 30);
        is("each with its end", x.built(0), 30);
    }

    private static void withinThreeOthers() {
        begin(11);
        is("plain", plain("size 2 2;village a s;"), 4);
        String[] opens = {"loop 2;", "when same a;"};
        for (int k = 0; k < 16; k++) {
            String one = opens[k & 1];
            String two = opens[k >> 1 & 1];
            String three = opens[k >> 2 & 1];
            String four = opens[k >> 3 & 1];
            takenAsOrders(one + two + three + "stop;end;end;" + four + "end;end;", 5);
            faultOfOrders(one + two + three + four + "end;end;end;end;", 7, (one + two + three).length());
            takenAsOrders(one + two + three + "end;" + four + "end;end;end;" + one + two + three + "end;end;end;", 7);
        }
    }

    private static void endsOfOrders() {
        begin(11);
        is("plain", plain("size 2 2;village a s;"), 4);
        faultOfOrders("end;", 2, 0);
        faultOfOrders("stop;end;", 2, 5);
        faultOfOrders("loop 1;end;end;", 2, 11);
        faultOfOrders("loop 1;", 2, 7);
        faultOfOrders("loop 1;  ", 2, 9);
        faultOfOrders("loop 1;stop;", 2, 12);
        faultOfOrders("loop 1;loop 1;end;", 2, 18);
        faultOfOrders("loop 1;end", 2, 10);
        faultOfOrders("loop 1;end end;", 2, 11);
        faultOfOrders("loop 1", 2, 6);
        faultOfOrders("loop 1 end;", 2, 7);
        faultOfOrders("stop", 2, 4);
        faultOfOrders("stop stop;", 2, 5);
        faultOfOrders(";", 2, 0);
        faultOfOrders("stop;;", 2, 5);
        faultOfOrders("size 1 1;", 2, 0);
        faultOfOrders("a;", 2, 0);
        faultOfOrders("1;", 2, 0);
        takenAsOrders("loop 1;end;", 1);
    }

    private static void numbersOfOrders() {
        begin(11);
        is("plain", plain("size 3 2;village a s;"), 6);
        for (String act : new String[] {"raise", "lower"}) {
            takenAsOrders(act + " 0 0;" + act + " 2 1;", 2);
            faultOfOrders(act + " 3 0;", 4, 6);
            faultOfOrders(act + " 0 2;", 4, 8);
            faultOfOrders(act + " 3 2;", 4, 6);
            faultOfOrders(act + " 9999 0;", 4, 6);
            takenAsOrders(act + " 0 0 by 1;" + act + " 0 0 by 99;", 2);
            faultOfOrders(act + " 0 0 by 0;", 4, 13);
            faultOfOrders(act + " 0 0 by 100;", 4, 13);
            faultOfOrders(act + " 0 0 by 00001;", 1, 13);
            faultOfOrders(act + " 0 0 by;", 2, 12);
            faultOfOrders(act + " 0 0 5;", 2, 10);
            faultOfOrders(act + " 0 0 at 5;", 2, 10);
            faultOfOrders(act + " 0;", 2, 7);
            faultOfOrders(act + ";", 2, 5);
            faultOfOrders(act + " 0 0 by 1 by 1;", 2, 15);
        }
        for (String act : new String[] {"storm 1;", "storm 99;", "loop 1;end;", "loop 99;end;"}) {
            takenAsOrders(act, 1);
        }
        faultOfOrders("storm 0;", 4, 6);
        faultOfOrders("storm 100;", 4, 6);
        faultOfOrders("storm;", 2, 5);
        faultOfOrders("storm 1 1;", 2, 8);
        faultOfOrders("loop 0;end;", 4, 5);
        faultOfOrders("loop 100;end;", 4, 5);
        faultOfOrders("loop;end;", 2, 4);
        faultOfOrders("stop 1;", 2, 5);
    }

    private static void testsOfOrders() {
        begin(11);
        is("plain", plain("size 3 2;village a s;village abcdefgh n;"), 6);
        takenAsOrders("when cell 2 1<0;end;when cell 0 0>99;end;when cell 0 0=99;end;", 3);
        faultOfOrders("when cell 3 1=0;end;", 4, 10);
        faultOfOrders("when cell 2 2=0;end;", 4, 12);
        faultOfOrders("when cell 2 1=100;end;", 4, 14);
        faultOfOrders("when cell 2 1;end;", 2, 13);
        faultOfOrders("when cell 2 1 1;end;", 2, 14);
        faultOfOrders("when cell 2 1=;end;", 2, 14);
        faultOfOrders("when cell 2 1=<0;end;", 2, 14);
        takenAsOrders("when sees a at 0=0;end;when sees abcdefgh at 8=99;end;", 2);
        faultOfOrders("when sees a at 9=0;end;", 4, 15);
        faultOfOrders("when sees a at 8=100;end;", 4, 17);
        faultOfOrders("when sees a 8=0;end;", 2, 12);
        faultOfOrders("when sees a at=0;end;", 2, 14);
        faultOfOrders("when sees at at 0=0;end;", 2, 10);
        faultOfOrders("when sees b at 9=0;end;", 3, 10);
        faultOfOrders("when sees abcdefghi at 0=0;end;", 2, 10);
        faultOfOrders("when sees abcdefg at 0=0;end;", 3, 10);
        takenAsOrders("when same a;end;when same abcdefgh;end;", 2);
        faultOfOrders("when same b;end;", 3, 10);
        faultOfOrders("when same;end;", 2, 9);
        faultOfOrders("when same 1;end;", 2, 10);
        faultOfOrders("when same a=1;end;", 2, 11);
        for (String word : KEPT_WORDS) {
            faultOfOrders("when same " + word + ";end;", 2, 10);
        }
        takenAsOrders("when stone=0;end;when stone<9999;end;when stone>0000;end;", 3);
        faultOfOrders("when stone=10000;end;", 1, 11);
        faultOfOrders("when stone 1;end;", 2, 11);
        faultOfOrders("when stone=;end;", 2, 11);
        faultOfOrders("when;end;", 2, 4);
        faultOfOrders("when loop;end;", 2, 5);
        faultOfOrders("when a;end;", 2, 5);
        faultOfOrders("when cell 0 0=0 end;", 2, 16);
    }

    private static void ordersOfAPlain() {
        begin(11);
        faultOfOrders("raise 0 0;", 4, 6);
        faultOfOrders("when cell 0 0=0;end;", 4, 10);
        faultOfOrders("when same a;end;", 3, 10);
        takenAsOrders("storm 9;when stone=0;stop;end;", 3);
        is("plain", plain("size 1 1;village a s;"), 1);
        takenAsOrders("raise 0 0;when same a;end;", 2);
        is("as it is now", plain("size 1 1;village b s;"), 1);
        faultOfOrders("when same a;end;", 3, 10);
        takenAsOrders("when same b;end;", 1);
        faultOfOrders("raise 0 1;", 4, 8);
        is("the old ones stay", x.built(0), 1);
    }

    private static void firstFaultOfOrders() {
        begin(11);
        is("plain", plain("size 2 2;village a s;"), 4);
        faultOfOrders("raise 2 0;#", 4, 6);
        faultOfOrders("raise 0 0#raise 9 9;", 1, 9);
        faultOfOrders("loop 1;loop 1;loop 1;loop 0;", 7, 21);
        faultOfOrders("loop 1;loop 1;loop 1;stop 0;loop 1;", 2, 26);
        faultOfOrders("when same b", 3, 10);
        faultOfOrders("loop 100", 4, 5);
        faultOfOrders("loop 1000000", 1, 5);
        faultOfOrders("when same a;#", 1, 12);
        everyByteOfOrders();
    }

    private static void everyByteOfOrders() {
        for (int b = 0; b < 256; b++) {
            boolean letter = b >= 'a' && b <= 'z';
            boolean digit = b >= '0' && b <= '9';
            boolean sign = b == ';' || b == '<' || b == '>' || b == '=';
            if (b == 10 || b == 32) {
                takenAsOrders("stop;" + (char) b, 1);
            } else {
                faultOfOrders("stop;" + (char) b, letter || digit || sign ? 2 : 1, 5);
            }
        }
    }

    // ---- promise 12

    private static void faultOfTheLatest() {
        begin(12);
        for (int what : new int[] {0, 1, 2, -1, MIN, MAX}) {
            due("ahead of any", x.fault(what), -1);
        }
        no("5 is none", () -> x.plain(1), 5);
        due("ahead of any still", x.fault(0), -1);
        no("5 is none", () -> x.orders(1), 5);
        due("ahead of any still", x.fault(0), -1);
        takenAsPlain("size 1 1;", 1);
        faultOfOrders("stop;stop", 2, 9);
        no("5 leaves it", () -> x.plain(21), 5);
        no("5 leaves it", () -> x.orders(301), 5);
        due("the FAULT", x.fault(0), 2);
        due("its place", x.fault(1), 9);
        for (int what : new int[] {2, 3, -1, MIN, MAX}) {
            due("others", x.fault(what), -1);
        }
        due("it has no STATUS", x.status(), 5);
        is("mark", x.mark(), 1);
        takenAsOrders("stop;", 1);
        is("back", x.back(), 0);
        due("a MARK does not bring it back", x.fault(0), 0);
        due("a MARK does not bring it back", x.fault(1), -1);
        faultOfPlain("#", 1, 0);
        takenAsPlain("size 1 1;", 1);
        for (int kind = 1; kind <= 7; kind++) {
            String[] texts = {"#", "size;", "size 1 1;village a n;village a n;", "size 6 1;", "", "size 1 1;most 1 1;",
                "size 2 1;most 1;"};
            int[] places = {0, 4, 29, 5, 0, 16, 15};
            if (kind != 5) {
                faultOfPlain(texts[kind - 1], kind, places[kind - 1]);
            }
        }
    }

    public static void main(String[] args) {
        twentyBytes();
        atMost900();
        firstBytesOfTheTape();
        noneBehindTheFirst();
        takenInPlaceOfThatAhead();
        everyByte();
        asLongAsTheyGo();
        sizes();
        endsTooEarly();
        rowsOfCells();
        names();
        sixVillages();
        skylines();
        firstFault();
        firstBytesAreOrders();
        thirtySteps();
        withinThreeOthers();
        endsOfOrders();
        numbersOfOrders();
        testsOfOrders();
        ordersOfAPlain();
        firstFaultOfOrders();
        faultOfTheLatest();
        end();
    }
}
