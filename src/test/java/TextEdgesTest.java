import java.util.List;

/** Edges of the TAPE, of the four TEXTS and of what THE LAW tells: 'Terms' 2, promises 11 to 14 and 16 to 19. */
public final class TextEdgesTest {
    private static final List<String> TOKENS = List.of("match", "lift", "melt", "when", "or", "and", "not", "temper", "hope", "other",
        "wish", "kin", "apart", "far", "snow", "found", "day", "on", "at", "for", "bare", "worth", "x", "days", "mat", "1", "12345", ";",
        "+", "-", "*", "/", "(", ")", "<", "=", ">", "#", ",", ".", "\t", "\r", "\u0000", "\u007f", "\u00a0", "\u00ff", "!", ":", "?", "[");
    private static final List<String> UNITS =
        List.of("1", "temper", "hope", "other", "wish", "kin", "apart", "far", "snow", "found", "day");

    /** Behind a beginning these TOKENS can stand (there is no FAULT at their place); at every other one is FAULT 1. */
    private static void stand(String words, int k, String begin, List<String> can) {
        Edges.sentence(13, words, () -> {
            for (String token : TOKENS) {
                SnowRises x = Edges.withTempers(5, 5, 5, 5);
                String text = begin + token + " ";
                int lines = Edges.told(x, k, text);
                if (!can.contains(token)) {
                    Edges.due("text " + k + " '" + text + "'", lines, -1);
                    Edges.due("fault(0) of '" + text + "'", x.fault(0), 1);
                    Edges.due("fault(1) of '" + text + "'", x.fault(1), begin.length());
                } else if (token.equals(";")) {
                    Edges.due("text " + k + " '" + text + "'", lines > 0, true);
                } else {
                    Edges.due("fault(0) of '" + text + "'", x.fault(0), 1);
                    Edges.due("fault(1) of '" + text + "': the end", x.fault(1), text.length());
                }
            }
        });
    }

    private static List<String> and(List<String> some, String... more) {
        List<String> all = new java.util.ArrayList<>(some);
        all.addAll(List.of(more));
        return all;
    }

    private static void standing() {
        String law = "0 THE LAW = {(match | lift | melt) E [when B] ;}.";
        stand(law, 0, "", List.of("match", "lift", "melt"));
        stand(law, 0, "match 1;", List.of("match", "lift", "melt"));
        for (String word : List.of("match ", "lift ", "melt ")) {
            stand(law, 0, word, UNITS);
            stand(law, 0, word + "1 ", List.of("*", "/", "+", "-", "when", ";"));
            stand(law, 0, word + "1 when 1=1 ", List.of("*", "/", "+", "-", "and", "or", ";"));
        }
        String e = "E = T {(+ | -) T}.  T = U {* U | / NUMBER}.  U = NUMBER | temper";
        for (String sign : List.of("1+", "hope-", "1*", "1+2*", "day/3*", "1/2-")) {
            stand(e, 0, "match " + sign, UNITS);
        }
        for (String unit : UNITS) {
            stand(e, 0, "match " + unit + " ", List.of("*", "/", "+", "-", "when", ";"));
            stand("/ NUMBER", 0, "melt " + unit + "/", List.of("1"));
            stand("/ NUMBER", 0, "melt 2*" + unit + "/2/", List.of("1"));
        }
        stand(e, 0, "melt 1/2 ", List.of("*", "/", "+", "-", "when", ";"));
        String b = "B = A {or A}.  A = C {and C}.  C = E (< | = | >) E | not C | ( B ).";
        List<String> single = and(UNITS, "not", "(");
        for (String begin : List.of("when ", "when not ", "when (", "when not (", "when (not ", "when 1=1 and ", "when 1=1 or ", "when (1=1) or ",
            "when (1=1 or ")) {
            stand(b, 0, "lift 1 " + begin, single);
        }
        for (String begin : List.of("when ", "when not ", "when (", "when 1<2 and ", "when (1>2) or not ")) {
            stand(b, 0, "lift 1 " + begin + "1 ", List.of("*", "/", "+", "-", "<", "=", ">"));
            for (String sign : List.of("<", "=", ">")) {
                stand(b, 0, "lift 1 " + begin + "1+day" + sign, UNITS);
            }
        }
        stand(b, 0, "lift 1 when not 1=1 ", List.of("*", "/", "+", "-", "and", "or", ";"));
        stand(b, 0, "lift 1 when (1=1 ", List.of("*", "/", "+", "-", "and", "or", ")"));
        stand(b, 0, "lift 1 when (not 1=1 ", List.of("*", "/", "+", "-", "and", "or", ")"));
        stand(b, 0, "lift 1 when (1=1) ", List.of("and", "or", ";"));
        stand(b, 0, "lift 1 when ((1=1) ", List.of("and", "or", ")"));
        stand(b, 0, "lift 1 when not (1=1) ", List.of("and", "or", ";"));
        stand(b, 0, "lift 1 when ((1=1)) ", List.of("and", "or", ";"));
        inLines("1 VOWS = {on DAY PERSON and PERSON at FIELD ;}", 1, "on", "1", "0", "and", "1", "at", "9", ";");
        inLines("2 WEATHER = {for N snow N ;}", 2, "for", "1", "snow", "3", ";");
        inLines("3 WANTS = {bare FIELD on DAY worth N ;}", 3, "bare", "9", "on", "4", "worth", "7", ";");
    }

    private static void inLines(String words, int k, String... line) {
        StringBuilder begin = new StringBuilder();
        for (int round = 0; round < 2; round++) {
            for (String token : line) {
                stand(words, k, begin.toString(), List.of(Character.isDigit(token.charAt(0)) ? "1" : token));
                begin.append(token).append(' ');
            }
        }
    }

    private static void tape() {
        Edges.sentence(11, "Twenty bytes come behind the TAPE, of each number the highest first: how many it has.", () -> {
            SnowRises x = new SnowRises();
            Edges.due("feed", x.feed(0x6d656c74, 0x20313b6d, 0x656c7420, 0x31207768, 0x656e2031), 20);
            Edges.due("feed", x.feed(0x3d323b6d, 0x656c7420, 0x37206f72, 0x20202020, 0x20202020), 40);
            Edges.due("text(0)", x.text(0), -1);
            Edges.due("'or' in the third line", x.fault(1), 20 + 10);
        });
        for (int i = 0; i < 20; i++) {
            int[] five = {0x20202020, 0x20202020, 0x20202020, 0x20202020, 0x20202020};
            five[i / 4] ^= (0xff ^ 0x20) << 24 - i % 4 * 8;
            int place = i;
            Edges.sentence(11, "of each number the highest first: byte " + i, () -> {
                SnowRises x = new SnowRises();
                x.feed(five[0], five[1], five[2], five[3], five[4]);
                Edges.due("text(0)", x.text(0), -1);
                Edges.due("fault(1)", x.fault(1), place);
            });
        }
        Edges.sentence(11, "400 at most", () -> {
            SnowRises x = new SnowRises();
            for (int i = 1; i <= 20; i++) {
                Edges.due("feed", x.feed(0, 0, 0, 0, 0), 20 * i);
            }
        });
        for (int n : new int[] {381, 390, 399, 400}) {
            Edges.sentence(11, "NONE, and nothing comes, if there would be more than 400.", () -> {
                SnowRises x = new SnowRises();
                Edges.feedAll(x, "melt 4;" + " ".repeat(n - 7));
                Edges.due("feed", x.feed(0x78787878, 0x78787878, 0x78787878, 0x78787878, 0x78787878), -1);
                Edges.due("end(n + 1)", x.end(n + 1), false);
                Edges.due("end(n)", x.end(n), true);
                Edges.due("text(0)", x.text(0), 1);
                Edges.due("at(0, 1)", x.at(0, 1), 4);
            });
        }
        Edges.sentence(11, "just 400", () -> {
            SnowRises x = new SnowRises();
            Edges.feedAll(x, " ".repeat(380));
            Edges.due("feed", x.feed(0x6d656c74, 0x20343b20, 0x20202020, 0x20202020, 0x20202020), 400);
            Edges.due("text(0)", x.text(0), 1);
        });
        Edges.sentence(13, "the TAPE's last byte", () -> {
            Edges.taken(new SnowRises(), 0, "melt 1" + "+0".repeat(196) + ";" + "\n", 1);
            Edges.taken(new SnowRises(), 0, "melt 15" + "+0".repeat(196) + ";", 1);
            Edges.faulty(new SnowRises(), 0, "melt 15" + "+0".repeat(196) + "+", 1, 400);
            Edges.faulty(new SnowRises(), 0, " ".repeat(399) + "x", 1, 399);
            Edges.faulty(new SnowRises(), 0, " ".repeat(399) + ";", 1, 399);
            Edges.faulty(new SnowRises(), 0, " ".repeat(396) + "melt", 1, 400);
            Edges.faulty(new SnowRises(), 0, "melt" + " ".repeat(396), 1, 400);
        });
    }

    private static void ends() {
        Edges.sentence(12, "The TAPE has its first n bytes alone: true", () -> {
            SnowRises x = new SnowRises();
            Edges.feedAll(x, "melt 1;melt 2;melt 3");
            Edges.due("end(20)", x.end(20), true);
            Edges.due("end(14)", x.end(14), true);
            Edges.due("end(15): it has not so many now", x.end(15), false);
            Edges.due("text(0)", x.text(0), 2);
            Edges.feedAll(x, "melt 1;melt 2;melt 3");
            Edges.due("end(0)", x.end(0), true);
            Edges.due("text(0)", x.text(0), 0);
            Edges.due("end(0) of none", x.end(0), true);
            Edges.due("end(1) of none", x.end(1), false);
        });
        Edges.sentence(12, "what comes behind a cut one", () -> {
            SnowRises x = new SnowRises();
            Edges.feedAll(x, "melt 7");
            Edges.due("feed", x.feed(0x3b6d656c, 0x74203220, 0x7768656e, 0x20313d31, 0x3b202020), 26);
            Edges.due("text(0)", x.text(0), 2);
            Edges.due("at(0, 1)", x.at(0, 1), 7);
        });
        for (int n : new int[] {-1, 8, 20, 400, 401, Edges.LEAST, Edges.MOST}) {
            Edges.sentence(12, "false, changing nothing, if it has not so many, or n is below 0.", () ->
                Edges.refused("end(" + n + ")", x -> Edges.count(x.end(n)), 0));
        }
    }

    private static void texts() {
        for (int k : new int[] {-1, 4, Edges.LEAST, Edges.MOST}) {
            Edges.sentence(13, "NONE: no such one (fault() tells 0)", () -> {
                SnowRises x = Edges.rich();
                SnowRises y = Edges.rich();
                Edges.due("text(" + k + ")", x.text(k), -1);
                Edges.due("fault(0)", x.fault(0), 0);
                Edges.due("fault(1)", x.fault(1), -1);
                Edges.due("end(1): the TAPE is empty", x.end(1), false);
                // The other one's TAPE and fault() are made alike in the plainest way.
                y.end(0);
                y.text(k);
                Edges.due("all else stays", Edges.all(x).equals(Edges.all(y)), true);
                Edges.due("undone as before", Edges.rich().look(15), 4);
            });
        }
        String[] good = {"melt 9 when 1=1;melt 8;melt 7;", "on 7 0 and 1 at 0;on 8 0 and 1 at 0;", "for 9 snow 30;", "bare 0 on 7 worth 99;"};
        String[] bad = {"melt 5;melt;", "on 5 4 and 5 at 0;on", "for 1 snow 1;for 61 snow 1;", "bare 9 on 4 worth 1;bare 9 on 4 worth 0;"};
        for (int k = 0; k < 4; k++) {
            int text = k;
            Edges.sentence(13, "a FAULT (the TEXT stays as it was; the TAPE is empty in each case)", () -> {
                SnowRises x = Edges.rich();
                SnowRises y = Edges.rich();
                x.end(0);
                y.end(0);
                Edges.due("text " + text + " '" + bad[text] + "'", Edges.told(x, text, bad[text]), -1);
                Edges.due("end(1): the TAPE is empty", x.end(1), false);
                Edges.due("undone can be", x.look(15), 4);
                x.text(-1);
                y.text(-1);
                Edges.due("all else stays", Edges.all(x).equals(Edges.all(y)), true);
            });
            Edges.sentence(13, "The TAPE, empty then, is TEXT k: how many lines.", () -> {
                SnowRises x = Edges.rich();
                x.end(0);
                int[] lines = {3, 2, 1, 1};
                Edges.due("text " + text, Edges.told(x, text, good[text]), lines[text]);
                Edges.due("look", x.look(10 + text), lines[text]);
                Edges.due("end(1): the TAPE is empty", x.end(1), false);
                Edges.due("fault(0)", x.fault(0), 0);
                Edges.due("fault(1)", x.fault(1), -1);
                Edges.due("an empty one", x.text(text), 0);
                Edges.due("look", x.look(10 + text), 0);
                Edges.due("blanks alone", Edges.told(x, text, " \n \n"), 0);
            });
        }
        Edges.sentence(13, "(empty at first)", () -> {
            for (int k = 0; k < 4; k++) {
                SnowRises x = new SnowRises();
                Edges.due("text(" + k + ")", x.text(k), 0);
                Edges.due("fault(0)", x.fault(0), 0);
            }
        });
        Edges.sentence(14, "0 without one", () -> {
            SnowRises x = Edges.rich();
            Edges.due("fault(0)", x.fault(0), 1);
            Edges.due("fault(1)", x.fault(1), 4);
            Edges.due("text(0)", x.text(0), 1);
            Edges.due("fault(0)", x.fault(0), 0);
            Edges.due("fault(1)", x.fault(1), -1);
        });
        for (int what : new int[] {-1, 2, Edges.LEAST, Edges.MOST}) {
            Edges.sentence(14, "NONE for another what.", () -> Edges.refused("fault(" + what + ")", x -> x.fault(what), -1));
        }
    }

    private static void tokens() {
        Edges.sentence(13, "letters as many as stand together are KEYWORDS .. or none", () -> {
            SnowRises x = new SnowRises();
            Edges.faulty(x, 0, "meltmelt 1;", 1, 0);
            Edges.faulty(x, 0, "mel t 1;", 1, 0);
            Edges.faulty(x, 0, "melt 1whenday=1;", 1, 6);
            Edges.faulty(x, 0, "melts 1;", 1, 0);
            Edges.faulty(x, 0, "mel", 1, 0);
            Edges.taken(x, 0, "melt1when day=1;lift2;match3;", 3);
            Edges.taken(x, 0, "melt snow when not(snow<far)or snow=1and day>0;", 1);
        });
        String[][] words = {{"match", "lift", "melt"}, {"on"}, {"for"}, {"bare"}};
        for (int k = 0; k < 4; k++) {
            int text = k;
            Edges.sentence(13, "KEYWORDS .. or none: one letter is another one, is wanting or is too many", () -> {
                for (String word : words[text]) {
                    for (int i = 0; i < word.length(); i++) {
                        for (char c = 'a'; c <= 'z'; c++) {
                            String other = word.substring(0, i) + c + word.substring(i + 1);
                            if (!other.equals(word)) {
                                Edges.faulty(new SnowRises(), text, other + " 1;", 1, 0);
                            }
                            Edges.faulty(new SnowRises(), text, word.substring(0, i) + c + word.substring(i) + " 1;", 1, 0);
                        }
                        Edges.faulty(new SnowRises(), text, word.substring(0, i) + word.substring(i + 1) + " 1;", 1, 0);
                    }
                    Edges.faulty(new SnowRises(), text, word + "z 1;", 1, 0);
                    Edges.faulty(new SnowRises(), text, word + "a 1;", 1, 0);
                }
            });
        }
        Edges.sentence(13, "KEYWORDS .. or none: names in THE LAW", () -> {
            for (String word : UNITS.subList(1, UNITS.size())) {
                for (int i = 0; i < word.length(); i++) {
                    String other = word.substring(0, i) + "z" + word.substring(i + 1);
                    Edges.faulty(new SnowRises(), 0, "melt " + other + ";", 1, 5);
                }
                Edges.taken(new SnowRises(), 0, "melt " + word + ";", 1);
            }
        });
        Edges.sentence(13, "digits as many as stand together NUMBERS of 1 to 4 digits or none", () -> {
            SnowRises x = new SnowRises();
            Edges.taken(x, 0, "melt 9;", 1);
            Edges.taken(x, 0, "melt 9999;", 1);
            Edges.due("9999", x.at(0, 1), 99);
            Edges.taken(x, 0, "melt 0009;", 1);
            Edges.due("0009", x.at(0, 1), 9);
            Edges.taken(x, 0, "melt 0000;", 1);
            Edges.faulty(x, 0, "melt 00000;", 1, 5);
            Edges.faulty(x, 0, "melt 10000;", 1, 5);
            Edges.faulty(x, 0, "melt 1 0;", 1, 7);
            Edges.faulty(x, 0, "melt 4294967297;", 1, 5);
            Edges.faulty(x, 2, "for 00001 snow 1;", 1, 4);
            Edges.taken(x, 2, "for 0001 snow 0030;", 1);
        });
        Edges.sentence(13, "Blanks (32, 10) between.", () -> {
            SnowRises x = new SnowRises();
            Edges.taken(x, 0, "\n\n melt\n \n1\n;\n", 1);
            Edges.taken(x, 0, "melt 1+2*3/4-5 when(1<2)and not 2=3 or(4>5);", 1);
            Edges.taken(x, 0, "  melt  1  +  2  when  (  1  <  2  )  ;  ", 1);
            for (char c = 0; c < 256; c++) {
                if (c != 32 && c != 10) {
                    Edges.faulty(new SnowRises(), 0, "melt " + c, 1, c >= '0' && c <= '9' ? 6 : 5);
                }
            }
        });
        Edges.sentence(13, "blanks part TOKENS", () -> {
            SnowRises x = new SnowRises();
            Edges.faulty(x, 0, "melt 1\n1;", 1, 7);
            Edges.faulty(x, 0, "me\nlt 1;", 1, 0);
        });
    }

    private static void faultPlaces() {
        Edges.sentence(13, "FAULTS, the first by its place", () -> {
            SnowRises x = Edges.withTempers(5, 5, 5, 5);
            Edges.faulty(x, 1, "on 1000 9 and 9 at 99;x", 2, 3);
            Edges.faulty(x, 1, "on 1 9 and 9 at 99;x", 2, 5);
            Edges.faulty(x, 1, "on 1 0 and 0 at 99;x", 2, 11);
            Edges.faulty(x, 1, "on 1 0 and 1 at 99;x", 2, 16);
            Edges.faulty(x, 1, "on 1 0 and 1 at 0;x", 1, 18);
            Edges.faulty(x, 1, "on 1 9 x", 2, 5);
            Edges.faulty(x, 0, "melt 1/0/0+;", 2, 7);
            Edges.faulty(x, 0, "melt +1/0;", 1, 5);
            Edges.faulty(x, 0, "melt 1;".repeat(15) + "melt;" + "melt 1;", 1, 109);
            Edges.faulty(x, 0, "melt 1 when 1/0=1 and (((((((((1=1;", 2, 14);
        });
        Edges.sentence(13, "at one place the least", () -> {
            SnowRises x = Edges.withTempers(5, 5, 5, 5);
            Edges.faulty(x, 1, "on 10000 0 and 1 at 0;", 1, 3);
            Edges.faulty(x, 1, "on 1 10000 and 1 at 0;", 1, 5);
            Edges.faulty(x, 1, "on 1 0 and 10000 at 0;", 1, 11);
            Edges.faulty(x, 1, "on 1 0 and 1 at 10000;", 1, 16);
            Edges.faulty(x, 0, "melt 1/00000;", 1, 7);
            Edges.faulty(x, 0, "melt 1 when ((((((((1(", 1, 21);
            Edges.faulty(x, 0, "melt 1 when not not not not not not not not 1 not", 1, 46);
            Edges.faulty(x, 0, "melt 1;".repeat(16) + "when", 1, 112);
        });
        Edges.sentence(13, "the end: the text's length", () -> {
            SnowRises x = Edges.withTempers(5, 5, 5, 5);
            Edges.faulty(x, 0, "melt", 1, 4);
            Edges.faulty(x, 0, "melt ", 1, 5);
            Edges.faulty(x, 0, "melt 1 \n ", 1, 9);
            Edges.faulty(x, 0, "melt 1;melt 1", 1, 13);
            Edges.faulty(x, 1, "on 1 0 and 1 at 0", 1, 17);
            Edges.faulty(x, 2, "for 1 snow 1 ", 1, 13);
            Edges.faulty(x, 3, "bare", 1, 4);
        });
        Edges.sentence(13, "(at the NUMBER) a part by 0", () -> {
            SnowRises x = new SnowRises();
            Edges.faulty(x, 0, "melt snow / 0 ;", 2, 12);
            Edges.faulty(x, 0, "melt snow/0000;", 2, 10);
            Edges.faulty(x, 0, "melt 4/2/0;", 2, 9);
            Edges.faulty(x, 0, "melt 4 when 1=4/0;", 2, 16);
            Edges.faulty(x, 0, "melt 4 when 4*1/0=1;", 2, 16);
            Edges.taken(x, 0, "melt 4/1*0+0/1/9999;", 1);
        });
    }

    private static void bounds() {
        Edges.sentence(13, "(DAY 0 .. 999)", () -> {
            SnowRises x = Edges.withTempers(5, 5);
            Edges.taken(x, 1, "on 0 0 and 1 at 0;on 999 0 and 1 at 0;", 2);
            Edges.faulty(x, 1, "on 1000 0 and 1 at 0;", 2, 3);
            Edges.faulty(x, 1, "on 9999 0 and 1 at 0;", 2, 3);
            Edges.taken(x, 3, "bare 0 on 0 worth 1;bare 0 on 999 worth 1;", 2);
            Edges.faulty(x, 3, "bare 0 on 1000 worth 1;", 2, 10);
            Edges.faulty(x, 3, "bare 0 on 9999 worth 1;", 2, 10);
        });
        Edges.sentence(13, "(for 1 .. 60 DAYS", () -> {
            SnowRises x = new SnowRises();
            Edges.taken(x, 2, "for 1 snow 3;for 60 snow 4;", 2);
            Edges.due("weather(1)", x.weather(1), 4);
            Edges.due("weather(60)", x.weather(60), 4);
            Edges.due("weather(61)", x.weather(61), 3);
            Edges.faulty(x, 2, "for 0 snow 1;", 2, 4);
            Edges.faulty(x, 2, "for 61 snow 1;", 2, 4);
            Edges.faulty(x, 2, "for 9999 snow 1;", 2, 4);
        });
        Edges.sentence(13, "snow 0 .. 30", () -> {
            SnowRises x = new SnowRises();
            Edges.taken(x, 2, "for 1 snow 0;for 1 snow 30;", 2);
            Edges.due("weather(0)", x.weather(0), 0);
            Edges.due("weather(1)", x.weather(1), 30);
            Edges.faulty(x, 2, "for 1 snow 31;", 2, 11);
            Edges.faulty(x, 2, "for 1 snow 9999;", 2, 11);
        });
        Edges.sentence(13, "(worth 1 .. 99", () -> {
            SnowRises x = new SnowRises();
            Edges.taken(x, 3, "bare 0 on 0 worth 1;bare 0 on 0 worth 99;", 2);
            x.set(3, 0, 0);
            Edges.due("meets(0)", x.meets(0), 100);
            Edges.faulty(x, 3, "bare 0 on 0 worth 0;", 2, 18);
            Edges.faulty(x, 3, "bare 0 on 0 worth 100;", 2, 18);
            Edges.faulty(x, 3, "bare 0 on 0 worth 9999;", 2, 18);
        });
        Edges.sentence(13, "a PERSON .. that there is not", () -> {
            SnowRises x = new SnowRises();
            Edges.faulty(x, 1, "on 0 0 and 1 at 0;", 2, 5);
            x.person(0, 5, 5, 0);
            Edges.faulty(x, 1, "on 0 0 and 1 at 0;", 2, 11);
            Edges.faulty(x, 1, "on 0 1 and 0 at 0;", 2, 5);
            for (int i = 1; i < 12; i++) {
                x.person(1, 5, 5, 0);
            }
            Edges.taken(x, 1, "on 0 0 and 11 at 0;on 0 11 and 0 at 0;", 2);
            Edges.faulty(x, 1, "on 0 0 and 12 at 0;", 2, 11);
            Edges.faulty(x, 1, "on 0 12 and 0 at 0;", 2, 5);
            Edges.faulty(x, 1, "on 0 0 and 9999 at 0;", 2, 11);
        });
        Edges.sentence(13, "a second PERSON of the same SIDE", () -> {
            SnowRises x = Edges.withTempers(5, 5, 5, 5);
            Edges.faulty(x, 1, "on 0 0 and 2 at 0;", 2, 11);
            Edges.faulty(x, 1, "on 0 3 and 1 at 0;", 2, 11);
            Edges.faulty(x, 1, "on 0 3 and 3 at 0;", 2, 11);
            Edges.taken(x, 1, "on 0 3 and 2 at 0;on 0 0 and 1 at 0;", 2);
        });
        Edges.sentence(13, "PEOPLE who are WED can be told in VOWS", () -> {
            SnowRises x = Edges.withTempers(5, 5);
            x.vow(0, 1, 0);
            Edges.taken(x, 1, "on 0 0 and 1 at 0;", 1);
        });
        int[][] sizes = {{3, 3}, {8, 7}, {5, 4}};
        for (int[] size : sizes) {
            Edges.sentence(13, "a FIELD that there is not", () -> {
                for (int f = 0; f < 70; f++) {
                    SnowRises x = new SnowRises();
                    x.valley(size[0], size[1]);
                    x.person(0, 5, 5, 0);
                    x.person(1, 5, 5, 0);
                    boolean there = f % 8 < size[0] && f / 8 < size[1];
                    if (there) {
                        Edges.taken(x, 1, "on 0 0 and 1 at " + f + ";", 1);
                        Edges.taken(x, 3, "bare " + f + " on 0 worth 1;", 1);
                    } else {
                        Edges.faulty(x, 1, "on 0 0 and 1 at " + f + ";", 2, 16);
                        Edges.faulty(x, 3, "bare " + f + " on 0 worth 1;", 2, 5);
                    }
                }
            });
        }
    }

    private static void tooMany(String words, int k, String line, String keyword, int most) {
        Edges.sentence(13, words, () -> {
            SnowRises x = Edges.withTempers(5, 5);
            String full = line.repeat(most);
            Edges.taken(x, k, line.repeat(most - 1), most - 1);
            Edges.taken(x, k, full, most);
            Edges.due("look", x.look(10 + k), most);
            Edges.faulty(x, k, full + line, 3, full.length());
            Edges.faulty(x, k, full + keyword, 3, full.length());
            Edges.faulty(x, k, full + " \n" + line + line, 3, full.length() + 2);
            Edges.faulty(x, k, full + ";", 1, full.length());
            Edges.faulty(x, k, full + "1", 1, full.length());
            Edges.due("look: the TEXT stays", x.look(10 + k), most);
        });
    }

    private static void lines() {
        for (String word : List.of("match", "lift", "melt")) {
            tooMany("3 (at its KEYWORD): the 17th line of THE LAW", 0, "lift 1;", word, 16);
            tooMany("3 (at its KEYWORD): the 17th line of THE LAW", 0, word + " 1 when 1=1;", word, 16);
        }
        tooMany("3 (at its KEYWORD): the 17th line .. of VOWS", 1, "on 0 0 and 1 at 0;", "on", 16);
        tooMany("3 (at its KEYWORD): .. the 13th of WEATHER", 2, "for 1 snow 1;", "for", 12);
        tooMany("3 (at its KEYWORD): .. the 13th .. of WANTS", 3, "bare 0 on 0 worth 1;", "bare", 12);
        Edges.sentence(13, "16 lines of THE LAW count, all of them", () -> {
            SnowRises x = Edges.withTempers(5, 5);
            Edges.taken(x, 0, "lift 1 when 1=2;".repeat(15) + "lift 77;", 16);
            Edges.due("lift", x.lift(0, 1, 0, 0), 77);
            Edges.taken(x, 0, "lift 1 when 1=2;".repeat(14) + "match 3;match 5;", 16);
            Edges.due("match", x.match(0, 1, false), 3);
        });
        Edges.sentence(13, "12 at most; one behind the other", () -> {
            SnowRises x = new SnowRises();
            StringBuilder s = new StringBuilder();
            for (int i = 1; i <= 12; i++) {
                s.append("for ").append(i == 12 ? 60 : i).append(" snow ").append(i).append(";");
            }
            Edges.taken(x, 2, s.toString(), 12);
            int day = 0;
            for (int i = 1; i <= 12; i++) {
                int days = i == 12 ? 60 : i;
                Edges.due("weather(" + day + ")", x.weather(day), i);
                Edges.due("weather(" + (day + days - 1) + ")", x.weather(day + days - 1), i);
                day += days;
            }
            Edges.due("weather(" + day + "): again the first", x.weather(day), 1);
            Edges.due("weather(" + (day + 1) + ")", x.weather(day + 1), 2);
            Edges.due("weather(" + (2 * day) + ")", x.weather(2 * day), 1);
            Edges.due("weather(" + (2 * day - 1) + ")", x.weather(2 * day - 1), 12);
        });
        Edges.sentence(13, "12 of WANTS count, all of them", () -> {
            SnowRises x = new SnowRises();
            Edges.taken(x, 3, "bare 0 on 0 worth 99;".repeat(11) + "bare 1 on 0 worth 7;", 12);
            x.set(3, 0, 0);
            Edges.due("meets(0)", x.meets(0), 11 * 99);
            Edges.due("meets(1)", x.meets(1), 11);
            x.set(3, 1, 0);
            Edges.due("meets(0)", x.meets(0), 11 * 99 + 7);
        });
        Edges.sentence(13, "16 of VOWS count, all of them", () -> {
            SnowRises x = Edges.withTempers(5, 5, 5, 5);
            Edges.taken(x, 1, "on 0 0 and 1 at 0;".repeat(15) + "on 0 2 and 3 at 0;", 16);
            Edges.due("rounds(25)", x.rounds(25), 1);
            Edges.due("rounds(24)", x.rounds(24), -1);
            Edges.due("days(1)", x.days(1), 2);
            Edges.due("book", x.book(15, 1), 0);
            Edges.due("book", x.book(15, 2), 2);
            Edges.due("book", x.book(14, 2), 14);
        });
    }

    private static void open(String b, int place) {
        Edges.sentence(13, "(at it) the 9th ( or not that is open", () -> {
            SnowRises x = new SnowRises();
            String text = "melt 5 when " + b + ";";
            if (place < 0) {
                Edges.taken(x, 0, text, 1);
            } else {
                Edges.faulty(x, 0, text, 3, 12 + place);
            }
        });
    }

    private static void opens() {
        open("(".repeat(8) + "1=1" + ")".repeat(8), -1);
        open("(".repeat(9) + "1=1" + ")".repeat(9), 8);
        open("(".repeat(10) + "1=1" + ")".repeat(10), 8);
        open("not ".repeat(8) + "1=1", -1);
        open("not ".repeat(9) + "1=1", 32);
        open("not(".repeat(4) + "1=1" + ")".repeat(4), -1);
        open("not(".repeat(4) + "(1=1)" + ")".repeat(4), 16);
        open("not(".repeat(4) + "not 1=1" + ")".repeat(4), 16);
        open("(".repeat(7) + "not 1=1" + ")".repeat(7), -1);
        open("(".repeat(8) + "not 1=1" + ")".repeat(8), 8);
        open("not ".repeat(7) + "(1=1)", -1);
        open("not ".repeat(8) + "(1=1)", 32);
        // What is closed is open no more, so that eight can be open anew.
        open("((((((((1=1)))))))) and ((((((((1=1))))))))", -1);
        open("((((((((1=1)))))))) and (((((((((1=1)))))))))", 32);
        open("not not not not not not not not 1=1 or not not not not not not not not 1=1", -1);
        open("((((((((1=1) and (1=1) or not 1=1)))))))", -1);
        open("(((((((not 1=1 and ((1=1))))))))))", 20);
        open("(((((((not(1=1)or(1=1))))))))", 10);
        open("(((((((1=1 or not 1=2 and not 1=3)))))))", -1);
    }

    private static long matchBy(String law) {
        return Edges.withLaw(law, 5, 5).match(0, 1, false);
    }

    private static void holds(String words, String b, boolean so) {
        Edges.sentence(16, words, () -> Edges.due(b, matchBy("match 7 when " + b + ";match 2;"), so ? 7 : 2));
    }

    private static void conditions() {
        holds("E (< | = | >) E", "1<2", true);
        holds("E (< | = | >) E", "2<2", false);
        holds("E (< | = | >) E", "3<2", false);
        holds("E (< | = | >) E", "1=2", false);
        holds("E (< | = | >) E", "2=2", true);
        holds("E (< | = | >) E", "1>2", false);
        holds("E (< | = | >) E", "2>2", false);
        holds("E (< | = | >) E", "3>2", true);
        holds("E (< | = | >) E", "0-9<0-8", true);
        holds("not C", "not 1=1", false);
        holds("not C", "not 1=2", true);
        holds("not C", "not not 1=1", true);
        holds("not C: of the C alone", "not 1=2 and 1=2", false);
        holds("not C: of the C alone", "not 1=1 or 1=1", true);
        holds("not C: of the C alone", "not 1=1 and 1=2", false);
        holds("( B )", "not(1=1 or 1=1)", false);
        holds("( B )", "not(1=1 and 1=2)", true);
        holds("( B )", "(1=1 or 1=1)and 1=2", false);
        holds("A = C {and C}", "1=1 and 1=1 and 1=1", true);
        holds("A = C {and C}", "1=1 and 1=1 and 1=2", false);
        holds("A = C {and C}", "1=2 and 1=1", false);
        holds("B = A {or A}", "1=2 or 1=2 or 1=1", true);
        holds("B = A {or A}", "1=2 or 1=2 or 1=2", false);
        holds("B = A {or A}", "1=1 or 1=2", true);
        holds("B = A {or A}: and ahead of or", "1=1 or 1=1 and 1=2", true);
        holds("B = A {or A}: and ahead of or", "1=2 and 1=1 or 1=1", true);
        holds("B = A {or A}: and ahead of or", "1=2 and 1=2 or 1=2 and 1=1", false);
        holds("E = T {(+ | -) T}", "9-4-3=2", true);
        holds("E = T {(+ | -) T}", "9-4+3=8", true);
        holds("T = U {* U | / NUMBER}", "1+2*3=7", true);
        holds("T = U {* U | / NUMBER}", "2*3+1=7", true);
        holds("T = U {* U | / NUMBER}", "20/3/2=3", true);
        holds("T = U {* U | / NUMBER}", "7/2*2=6", true);
        holds("T = U {* U | / NUMBER}", "2*7/4=3", true);
        holds("T = U {* U | / NUMBER}", "9-6/2-1*2=4", true);
        holds("T = U {* U | / NUMBER}", "0/7=0", true);
        holds("T = U {* U | / NUMBER}", "6/7=0", true);
        holds("T = U {* U | / NUMBER}", "7/7=1", true);
        holds("T = U {* U | / NUMBER}", "7/1=7", true);
        holds("T = U {* U | / NUMBER}", "9999/9999=1", true);
        holds("T = U {* U | / NUMBER}", "9998/9999=0", true);
        holds("Ints, which wrap", "9999*9999*30<0", true);
        holds("Ints, which wrap", "9999*9999*21>0", true);
        holds("Ints, which wrap", "9999*9999*21+9999*9999<0", true);
        holds("Ints, which wrap", "0-9999*9999*21-9999*9999>0", true);
        holds("Ints, which wrap", "4096*4096*256=0", true);
        holds("Ints, which wrap", "4096*4096*128-1>0", true);
        holds("/ goes towards 0", "9999*9999*30/9999/100+1295=0", true);
        holds("/ goes towards 0", "4096*4096*128/9999/100+2147=0", true);
    }

    private static boolean joined(boolean a, boolean and, boolean b) {
        return and ? a && b : a || b;
    }

    private static void so(String b, boolean so) {
        Edges.due(b, matchBy("match 7 when " + b + ";match 2;"), so ? 7 : 2);
    }

    private static void truths() {
        Edges.sentence(16, "B = A {or A}.  A = C {and C}.  C = not C | ( B ): all that can be of three", () -> {
            for (int i = 0; i < 32; i++) {
                boolean p = (i & 1) > 0;
                boolean q = (i & 2) > 0;
                boolean r = (i & 4) > 0;
                boolean one = (i & 8) > 0;
                boolean two = (i & 16) > 0;
                String a = p ? "1=1" : "1=2";
                String b = q ? "2>1" : "1>1";
                String c = r ? "0<1" : "1<1";
                String x = one ? " and " : " or ";
                String y = two ? " and " : " or ";
                so(a + x + b + y + c, two && !one ? p || q && r : joined(joined(p, one, q), two, r));
                so("(" + a + x + b + ")" + y + c, joined(joined(p, one, q), two, r));
                so(a + x + "(" + b + y + c + ")", joined(p, one, joined(q, two, r)));
                so("not " + a + x + "not(" + b + y + c + ")", joined(!p, one, !joined(q, two, r)));
                so("not(" + a + x + b + ")" + y + "not " + c, joined(!joined(p, one, q), two, !r));
                so("((" + a + ")" + x + "(not not " + b + "))" + y + "(((" + c + ")))", joined(joined(p, one, q), two, r));
            }
        });
    }

    private static void held() {
        String[] nines = {"0-1", "0", "1", "8", "9", "10", "9999", "9999*9999*30", "9999*9999*21"};
        int[] match = {0, 0, 1, 8, 9, 9, 9, 0, 9};
        for (int i = 0; i < nines.length; i++) {
            int at = i;
            Edges.sentence(16, "match held to 0 .. 9", () -> Edges.due(nines[at], matchBy("match " + nines[at] + ";"), match[at]));
        }
        String[] most = {"0-1", "0", "1", "98", "99", "100", "9999", "9999*9999*30", "9999*9999*21"};
        int[] want = {0, 0, 1, 98, 99, 99, 99, 0, 99};
        for (int i = 0; i < most.length; i++) {
            int at = i;
            Edges.sentence(18, "lift, melt to 0 .. 99", () -> {
                SnowRises x = Edges.withLaw("lift " + most[at] + ";melt " + most[at] + ";", 5, 5);
                Edges.due("lift by " + most[at], x.lift(0, 1, 0, 0), want[at]);
                Edges.due("melt by " + most[at], x.at(0, 1), want[at]);
            });
        }
        Edges.sentence(16, "E of the first line with that word whose B is so, or that has none", () -> {
            Edges.due("the first", matchBy("match 3;match 4;"), 3);
            Edges.due("whose B is so", matchBy("match 3 when 1=2;match 4 when 1=1;match 5;"), 4);
            Edges.due("that has none", matchBy("match 3 when 1=2;match 4;match 5 when 1=1;"), 4);
            Edges.due("with that word", matchBy("lift 3;melt 4;match 5;"), 5);
        });
        Edges.sentence(16, "(none: match: 9 less apart", () -> {
            SnowRises x = Edges.withTempers(0, 9, 4, 3);
            for (String law : new String[] {"", "lift 3;melt 4;", "match 3 when 1=2;"}) {
                Edges.told(x, 0, law);
                Edges.due("apart 9", x.match(0, 1, false), 0);
                Edges.due("apart 9", x.match(1, 0, false), 0);
                Edges.due("apart 1", x.match(2, 3, false), 8);
                Edges.due("apart 4, of one SIDE", x.match(0, 2, false), 5);
            }
            x.set(4, 1, 0);
            Edges.due("apart 0", x.match(0, 1, true), 9);
        });
        Edges.sentence(18, "lift: found times 2 less far", () -> {
            SnowRises x = Edges.withTempers(0, 9, 4, 4);
            x.valley(8, 7);
            x.person(0, 4, 0, 0);
            x.person(1, 4, 0, 0);
            x.person(1, 9, 0, 0);
            for (String law : new String[] {"", "match 9-apart;melt 4;", "lift 99 when 1=2;"}) {
                Edges.told(x, 0, law);
                Edges.due("far 0", x.lift(0, 1, 9, 9), 18);
                Edges.due("far 13", x.lift(0, 1, 0, 55), 5);
                Edges.due("far 13", x.lift(0, 1, 48, 7), 5);
                Edges.due("FOUND 4, far 8", x.lift(0, 2, 0, 36), 0);
                Edges.due("FOUND 4, far 7", x.lift(0, 2, 0, 35), 1);
                Edges.due("0 at least", x.lift(0, 2, 0, 55), 0);
            }
        });
        Edges.sentence(17, "melt 0)", () -> {
            SnowRises x = Edges.withLaw("match 5;lift 6;melt 7 when 1=2;", 5);
            Edges.due("at(0, 1)", x.at(0, 1), 0);
        });
    }

    private static void named(String words, SnowRises x, String word, String name, int value) {
        Edges.sentence(16, words, () -> {
            String now = word + " 7 when " + name + "=" + value + ";" + word + " 2;";
            Edges.told(x, 0, (word.equals("lift") ? "match 9 when temper=1;match 5;" : "") + now);
            long got = word.equals("match") ? x.match(0, 1, false) : word.equals("lift") ? x.lift(0, 1, 0, 11) : x.at(11, 1);
            Edges.due(word + " by " + name + "=" + value, got, 7);
        });
    }

    private static void names() {
        String[] names = {"temper", "hope", "other", "wish", "kin", "apart", "far", "snow", "found", "day"};
        int[] match = {1, 2, 7, 8, 1, 6, 0, 0, 0, 3};
        int[] lift = {0, 0, 0, 0, 1, 6, 4, 44, 5, 3};
        int[] melt = {0, 0, 0, 0, 0, 0, 0, 44, 0, 3};
        SnowRises x = new SnowRises();
        x.person(0, 1, 2, 9);
        x.person(1, 7, 8, 10);
        x.kin(0, 1, true);
        x.set(3, 11, 44);
        x.set(3, 0, 33);
        x.days(3);
        for (int i = 0; i < names.length; i++) {
            named("temper, hope: his; other, wish: the other one's; .. What is not told here is 0.", x, "match", names[i], match[i]);
            named("lift of a FIELD by a VOW of two: found, far, snow, kin, apart. What is not told here is 0.", x, "lift", names[i], lift[i]);
            named("melt of a FIELD: snow. What is not told here is 0.", x, "melt", names[i], melt[i]);
        }
        Edges.sentence(16, "kin: 1, if they are KIN, else 0", () -> {
            SnowRises y = Edges.withLaw("match kin+4;lift kin+4;", 5, 5, 5, 5);
            Edges.due("else", y.match(0, 1, true), 4);
            Edges.due("else", y.lift(0, 1, 0, 0), 4);
            y.kin(1, 0, true);
            Edges.due("match(0, 1)", y.match(0, 1, true), 5);
            Edges.due("lift(1, 0)", y.lift(1, 0, 0, 0), 5);
            Edges.due("of others", y.match(2, 1, true), 4);
            Edges.due("of others", y.match(0, 2, true), 4);
        });
        Edges.sentence(16, "day: DAY", () -> {
            SnowRises y = Edges.withLaw("match day;lift day;melt day;", 5, 5);
            Edges.due("on DAY 0", y.match(0, 1, false) + y.lift(0, 1, 0, 0) + y.at(0, 1), 0);
            y.days(9);
            Edges.due("on DAY 9", y.match(0, 1, false) * 10000 + y.lift(0, 1, 0, 0) * 100 + y.at(0, 1), 90909);
        });
        Edges.sentence(18, "far: steps by x and y from the VOW's FIELD", () -> {
            SnowRises y = Edges.withLaw("lift far;", 5, 5);
            y.valley(8, 7);
            y.person(0, 0, 0, 0);
            y.person(1, 0, 0, 0);
            Edges.told(y, 0, "lift far;");
            int[][] want = {{0, 0, 0}, {0, 7, 7}, {7, 0, 7}, {0, 48, 6}, {48, 0, 6}, {0, 55, 13}, {55, 0, 13}, {7, 48, 13}, {7, 8, 8},
                {9, 18, 2}, {9, 16, 2}};
            for (int[] f : want) {
                Edges.due("lift(0, 1, " + f[0] + ", " + f[1] + ")", y.lift(0, 1, f[0], f[1]), f[2]);
            }
        });
        Edges.sentence(16, "FOUND of two: the lesser one of both matches.", () -> {
            SnowRises y = Edges.withLaw("match temper;", 3, 8, 8, 3);
            Edges.due("match(0, 1)", y.match(0, 1, false), 3);
            Edges.due("match(1, 0)", y.match(1, 0, false), 8);
            Edges.due("FOUND", y.match(0, 1, true), 3);
            Edges.due("FOUND", y.match(1, 0, true), 3);
            Edges.due("FOUND", y.match(2, 3, true), 3);
            Edges.due("FOUND", y.match(2, 1, true), 8);
        });
    }

    private static void asked() {
        int[][] alike = {{0, 0}, {5, 5}, {-1, 0}, {0, -1}, {6, 0}, {0, 6}, {-1, -1}, {Edges.LEAST, 0}, {0, Edges.MOST}, {32, 1}, {1, 32}};
        for (int[] b : alike) {
            for (boolean found : new boolean[] {false, true}) {
                Edges.sentence(16, "NONE if one can't be (alike).", () ->
                    Edges.refused("match(" + b[0] + ", " + b[1] + ", " + found + ")", x -> x.match(b[0], b[1], found), -1));
            }
            Edges.sentence(18, "NONE if one can't be.", () ->
                Edges.refused("lift(" + b[0] + ", " + b[1] + ", 0, 0)", x -> x.lift(b[0], b[1], 0, 0), -1));
        }
        for (int f : new int[] {-1, 3, 7, 32, 56, 64, Edges.LEAST, Edges.MOST}) {
            Edges.sentence(18, "NONE if one can't be.", () -> {
                Edges.refused("lift(0, 1, " + f + ", 0)", x -> x.lift(0, 1, f, 0), -1);
                Edges.refused("lift(0, 1, 0, " + f + ")", x -> x.lift(0, 1, 0, f), -1);
            });
            Edges.sentence(17, "NONE - 1 if there is none such", () -> {
                Edges.refused("at(" + f + ", 0)", x -> x.at(f, 0), -2);
                Edges.refused("at(" + f + ", 1)", x -> x.at(f, 1), -2);
            });
        }
        for (int what : new int[] {-1, 2, Edges.LEAST, Edges.MOST}) {
            Edges.sentence(17, "NONE - 1 if .. another what.", () -> Edges.refused("at(0, " + what + ")", x -> x.at(0, what), -2));
        }
        Edges.sentence(18, "(whether they can or not)", () -> {
            SnowRises x = Edges.withTempers(5, 5, 5, 5);
            x.vow(0, 1, 0);
            Edges.due("WED", x.lift(0, 1, 9, 9), 18);
            Edges.due("one of them WED", x.lift(0, 3, 9, 9), 18);
            Edges.due("like SIDES", x.lift(1, 3, 9, 9), 18);
        });
        Edges.sentence(19, "WEATHER's snow of a DAY (0 .. 9999)", () -> {
            SnowRises x = new SnowRises();
            Edges.due("empty", x.weather(0), 0);
            Edges.due("empty", x.weather(9999), 0);
            Edges.due("empty", x.weather(10000), -1);
            Edges.told(x, 2, "for 7 snow 5;for 3 snow 8;");
            Edges.due("weather(0)", x.weather(0), 5);
            Edges.due("weather(6)", x.weather(6), 5);
            Edges.due("weather(7)", x.weather(7), 8);
            Edges.due("weather(9)", x.weather(9), 8);
            Edges.due("weather(10)", x.weather(10), 5);
            Edges.due("weather(9996)", x.weather(9996), 5);
            Edges.due("weather(9999)", x.weather(9999), 8);
            x.days(8);
            Edges.due("from DAY 0 on, not from this one", x.weather(0), 5);
        });
        for (int day : new int[] {-1, 10000, Edges.LEAST, Edges.MOST}) {
            Edges.sentence(19, "NONE if one can't be.", () -> Edges.refused("weather(" + day + ")", x -> x.weather(day), -1));
        }
    }

    public static void main(String[] args) {
        standing();
        tape();
        ends();
        texts();
        tokens();
        faultPlaces();
        bounds();
        lines();
        opens();
        conditions();
        truths();
        held();
        names();
        asked();
        Edges.end();
    }
}
