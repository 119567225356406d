/** THE TAPE, its TOKENS, lines and FAULTS, and promises 1 to 5. */
final class TextEdges extends Edges {
    private static final String[] NAMES = {"star", "wheel", "fountain", "squib", "reader", "wind", "damp"};
    private static final String LINES = "star 1 2 3;wheel 4 5 6;fountain 7 8 9;squib 10 11 1;reader 2 3;wind 4;damp 5;";

    TextEdges(Sentences says) {
        super(says);
    }

    @Override
    void all() {
        tokens();
        lines();
        faults();
        whatATextLeaves();
        newObject();
        tape();
        textAndFault();
    }

    /** The text is taken, and has so many lines. */
    private void taken(String text, int lines) {
        RocketPrint x = new RocketPrint();
        due("text() of '" + text + "'", tell(x, text), lines);
        due("fault() of '" + text + "'", x.fault(), 0);
    }

    private void refused(String text, int fault, int place) {
        RocketPrint x = new RocketPrint();
        due("text() of '" + text + "'", tell(x, text), -10 - place);
        due("fault() of '" + text + "'", x.fault(), fault);
    }

    private static boolean isLetter(int c) {
        return "abcdefghijklmnopqrstuvwxyz".indexOf(c) >= 0;
    }

    private static boolean isFigure(int c) {
        return "0123456789".indexOf(c) >= 0;
    }

    private void tokens() {
        says.term("THE TAPE has 160 bytes, places from 0.", () -> {
            refused("?", 1, 0);
            refused(" ".repeat(159) + "?", 1, 159);
            refused(" ".repeat(156) + "wind", 2, 160);
            taken(" ".repeat(153) + "wind 1;", 1);
            RocketPrint x = new RocketPrint();
            feedAll(x, " ".repeat(160) + "?");
            due("the 161st is not on it", x.text(), 0);
        });
        says.term("TOKENS, each as long as may be,", () -> {
            refused("windwind 1;", 2, 0);
            refused("wind 12;", 3, 5);
            refused("star 1 23;", 2, 9);
            refused("damp 0000;", 1, 5);
            refused("a".repeat(160), 2, 0);
            refused("9".repeat(160), 1, 0);
        });
        says.term("any number of blanks (32) ahead of, between, behind them", this::blanks);
        says.term("(one at least between two NAMES, between two NUMBERS; else none is needed):", () -> {
            taken(LINES.replace("r ", "r").replace("l ", "l").replace("n ", "n").replace("b ", "b")
                    .replace("d ", "d").replace("p ", "p"), 7);
            refused("wind star 1;", 2, 5);
            refused("windstar 1;", 2, 0);
            refused("reader 1 1 1;", 2, 11);
            taken("reader 1 1;", 1);
            refused("reader 11;", 2, 9);
            refused("reader 111;", 1, 7);
        });
        says.term("NAMES (a .. z),", () -> {
            for (int c = 0; c < 128; c++) {
                if (isLetter(c)) {
                    refused("" + (char) c, 2, 0);
                }
            }
            for (String no : new String[] {"`", "{", "A", "Z", "@", "["}) {
                refused(no, 1, 0);
                refused("wind" + no + " 1;", 1, 4);
            }
        });
        says.term("NUMBERS (1 or 2 figures),", () -> {
            for (int n = 0; n <= 9; n++) {
                taken("damp " + n + ";", 1);
                taken("damp 0" + n + ";", 1);
                refused("damp 00" + n + ";", 1, 5);
                taken("star 0 5" + n + " 1;", 1);
            }
            refused("damp /;", 1, 5);
            refused("damp :;", 1, 5);
            refused("damp -1;", 1, 5);
            refused("damp +1;", 1, 5);
            refused("damp 1.5;", 1, 6);
        });
        says.term("the sign ;", () -> {
            taken("wind 1;", 1);
            for (String no : new String[] {",", ".", ":", "<", "|"}) {
                refused("wind 1" + no, 1, 6);
            }
            refused("wind 1;;", 2, 7);
        });
        says.term("(every other byte is no TOKEN).", this::everyByte);
    }

    private void blanks() {
        String[] tokens = {"star", "1", "2", "3", ";", "wind", "8", ";"};
        int[] needed = {0, 0, 1, 1, 0, 0, 0, 0, 0};
        for (int gap = 0; gap <= tokens.length; gap++) {
            for (int blanks : new int[] {0, 1, 2, 100}) {
                StringBuilder text = new StringBuilder();
                for (int i = 0; i <= tokens.length; i++) {
                    text.append(" ".repeat(i == gap ? Math.max(blanks, needed[i]) : needed[i]));
                    text.append(i < tokens.length ? tokens[i] : "");
                }
                taken(text.toString(), 2);
            }
        }
        taken("", 0);
        taken(" ", 0);
        taken(" ".repeat(160), 0);
        for (int no : new int[] {0, 9, 10, 13, 31, 33, 127}) {
            refused("wind" + (char) no + "1;", 1, 4);
            refused("" + (char) no, 1, 0);
        }
    }

    /** Each byte where a line may begin, where a NUMBER must stand, where the sign must. */
    private void everyByte() {
        for (int c = 0; c < 128; c++) {
            String b = "" + (char) c;
            boolean token = isLetter(c) || isFigure(c) || c == ';';
            if (c == ' ') {
                taken(b, 0);
                taken("wind " + b + "1;", 1);
                taken("wind 1 " + b + ";", 1);
                continue;
            }
            refused(b, token ? 2 : 1, 0);
            refused("wind 1;" + b, token ? 2 : 1, 7);
            if (!isFigure(c)) {
                refused("wind " + b + ";", token ? 2 : 1, 5);
            }
            if (c != ';') {
                refused("wind 1 " + b, token ? 2 : 1, 7);
            }
        }
    }

    private void lines() {
        says.term("text: { line }", () -> {
            RocketPrint x = of(LINES);
            x.see(0, 0);
            x.keep(0);
            due("no line at all is a text, too", x.text(), 0);
            due("fault()", x.fault(), 0);
            due("it is taken: WORKS", x.rule(0), 0);
            due("it is taken: READERS", x.rule(1), 0);
            due("it is taken: WIND", x.rule(2), 4);
            due("it is taken: DAMP", x.rule(3), 0);
            due("it is taken: SEEN", x.count(0), 0);
            due("it is taken: IMAGES", x.count(1), 0);
            taken("damp 0;", 1);
            taken("wind 4;damp 0;", 2);
            taken("star 0 0 1;".repeat(6) + "reader 0 0;".repeat(4) + "wind 0;damp 0;", 12);
        });
        says.term("line: K N N N ; | reader N N ; | wind N ; | damp N ;", () -> {
            String[] whole = {"star 1 1 1;", "wheel 1 1 1;", "fountain 1 1 1;", "squib 1 1 1;", "reader 1 1;", "wind 1;", "damp 1;"};
            for (String line : whole) {
                taken(line, 1);
                int sign = line.indexOf(';');
                refused(line.replace(";", " 1;"), 2, sign + 1);
                refused(line.replace(" 1;", ";"), 2, sign - 2);
                refused(line.replace("1;", "a;"), 2, sign - 1);
                refused(line.replace(";", "a"), 2, sign);
                refused(line + ";", 2, sign + 1);
                refused(line + "1", 2, sign + 1);
                refused(";" + line, 2, 0);
            }
        });
        says.term("K: star | wheel | fountain | squib", () -> {
            for (String name : NAMES) {
                String rest = name.equals("reader") ? " 1 1;" : name.equals("wind") || name.equals("damp") ? " 1;" : " 1 1 1;";
                taken(name + rest, 1);
                refused(name.substring(1) + rest, 2, 0);
                refused(name.substring(0, name.length() - 1) + rest, 2, 0);
                refused(name + name.charAt(name.length() - 1) + rest, 2, 0);
                refused("a" + name + rest, 2, 0);
                for (int i = 0; i < name.length(); i++) {
                    refused(name.substring(0, i) + "z" + name.substring(i + 1) + rest, 2, 0);
                }
            }
        });
        says.term("K: a WORK more of that KIND: FROM, MINUTE, POWER.", () -> {
            for (int kind = 0; kind < 4; kind++) {
                RocketPrint x = of(NAMES[kind] + " 0 0 1;" + NAMES[kind] + " 11 59 9;");
                int[][] want = {{kind, 0, 0, 1}, {kind, 11, 59, 9}};
                for (int w = 0; w < 2; w++) {
                    for (int what = 0; what < 4; what++) {
                        due(NAMES[kind] + " " + w + ", " + what, x.work(w, what), want[w][what]);
                    }
                }
                due("two more", x.rule(0), 2);
            }
        });
        says.term("reader: a READER more: AT, COUGHS.", () -> {
            RocketPrint x = of("reader 0 9;reader 11 0;");
            due("AT", x.reader(0, 0), 0);
            due("COUGHS", x.reader(0, 1), 9);
            due("AT", x.reader(1, 0), 11);
            due("COUGHS", x.reader(1, 1), 0);
            due("two more", x.rule(1), 2);
        });
        says.term("wind: WIND.", () -> {
            for (int v = 0; v <= 8; v++) {
                due("wind " + v, of("wind " + v + ";").rule(2), v);
                due("wind " + v + " is not DAMP", of("wind " + v + ";").rule(3), 0);
            }
        });
        says.term("damp: DAMP.", () -> {
            for (int v = 0; v <= 9; v++) {
                due("damp " + v, of("damp " + v + ";").rule(3), v);
                due("damp " + v + " is not WIND", of("damp " + v + ";").rule(2), 4);
            }
        });
    }

    private void faults() {
        says.term("FAULTS, the first met as it is read (a TOKEN is read when the one before has been taken):", () -> {
            refused("star 12 ?", 3, 5);
            refused("star 1 ? 99", 1, 7);
            refused("stars ?", 2, 0);
            refused("12 999", 2, 0);
            refused("; ?", 2, 0);
            refused("wind ; ?", 2, 5);
            refused("wind 1 999;", 1, 7);
            refused("star 100 60 0;", 1, 5);
            refused("star 12 60 0;", 3, 5);
            refused("star 11 60 0;", 3, 8);
            refused("wind 1;wind ?", 4, 7);
            refused("wind 1;wind;", 4, 7);
            refused("star 1 1 1;".repeat(6) + "star ?", 5, 66);
            refused("star 1 1 1;".repeat(6) + "stars ?", 2, 66);
            refused("reader 1 1;".repeat(4) + "reader", 5, 44);
            refused("wind 9 reader", 3, 5);
        });
        says.term("1 no TOKEN,", () -> {
            refused("?wind 1;", 1, 0);
            refused("wind 1;  ?", 1, 9);
            refused("wind 1?;", 1, 6);
            refused("wi?nd 1;", 2, 0);
            refused("wind? 1;", 1, 4);
        });
        says.term("a NUMBER that is too long (its first byte).", () -> {
            refused("wind 001;", 1, 5);
            refused("star 11 000 1;", 1, 8);
            refused(" 123", 1, 1);
            refused(" ".repeat(157) + "123", 1, 157);
            refused(" ".repeat(158) + "12", 2, 158);
            refused("wind " + "4294967297".repeat(15) + "12345", 1, 5);
        });
        says.term("2 a TOKEN that can not stand there (a NAME that begins no line;", () -> {
            refused("stars 1 1 1;", 2, 0);
            refused("wind 1; stars 1 1 1;", 2, 8);
            refused("wind stars;", 2, 5);
            refused("wind 1 stars;", 2, 7);
            refused("wind 1 wind 2;", 2, 7);
            refused("1", 2, 0);
            refused(";", 2, 0);
        });
        says.term("or the end: the length).", this::cutShort);
        says.term("3 a NUMBER out of its bounds.", () -> {
            slot("star ", 0, 11, " 0 1;");
            slot("wheel 0 ", 0, 59, " 1;");
            slot("fountain 0 0 ", 1, 9, ";");
            slot("squib 0 0 ", 1, 9, ";");
            slot("reader ", 0, 11, " 0;");
            slot("reader 0 ", 0, 9, ";");
            slot("wind ", 0, 8, ";");
            slot("damp ", 0, 9, ";");
        });
        says.term("4 wind, damp for the second time (its NAME).", () -> {
            taken("wind 1;damp 1;", 2);
            taken("damp 1;wind 1;", 2);
            refused("wind 1;wind 1;", 4, 7);
            refused("damp 1; damp 1;", 4, 8);
            refused("wind 4;damp 0;wind 4;", 4, 14);
            refused("damp 0;wind 4;damp 0;", 4, 14);
            refused("wind 0;wind 0;", 4, 7);
            RocketPrint x = of("wind 1;damp 1;");
            due("each text by itself", tell(x, "wind 2;damp 2;"), 2);
            due("refused", tell(x, "wind 3;?"), -17);
            due("one that was refused does not count", tell(x, "wind 3;"), 1);
        });
        says.term("5 the 7th WORK, the 5th reader (its NAME).", () -> {
            String six = "star 0 0 1;wheel 0 0 1;squib 0 0 1;star 0 0 1;wheel 0 0 1;star 0 0 1;";
            taken(six, 6);
            for (int kind = 0; kind < 4; kind++) {
                refused(six + " " + NAMES[kind] + " 0 0 1;", 5, six.length() + 1);
            }
            taken(six + "reader 0 0;".repeat(4), 10);
            refused(six + "reader 0 0;".repeat(4) + "reader 0 0;", 5, six.length() + 44);
            taken("reader 0 0;".repeat(4) + six, 10);
            RocketPrint x = full();
            due("those that were do not count", tell(x, six + "reader 0 0;".repeat(4)), 10);
        });
    }

    /** Every first part of a line: the end can not stand there. */
    private void cutShort() {
        String[] whole = {"star 11 59 9;", "reader 11 9;", "wind 8;", "damp 9;"};
        for (String line : whole) {
            int name = line.indexOf(' ');
            for (int n = 1; n < line.length(); n++) {
                refused(line.substring(0, n), 2, n < name ? 0 : n);
                RocketPrint x = new RocketPrint();
                feedAll(x, line);
                x.end(n);
                due("text() of the first " + n + " of " + line, x.text(), n < name ? -10 : -10 - n);
            }
        }
        refused("wind 1   ", 2, 9);
        refused("star" + " ".repeat(156), 2, 160);
    }

    private void slot(String ahead, int least, int most, String behind) {
        for (int v = 0; v <= 99; v++) {
            if (v >= least && v <= most) {
                taken(ahead + v + behind, 1);
            } else {
                refused(ahead + v + behind, 3, ahead.length());
            }
        }
    }

    private void whatATextLeaves() {
        says.term("A text that is taken tells all, in place of what there was (what no line tells is as at first);", () -> {
            RocketPrint x = full();
            x.blow(8);
            x.damp(9);
            due("text", tell(x, "squib 11 59 9;"), 1);
            int[] want = {1, 0, 4, 0};
            for (int what = 0; what < 4; what++) {
                due("rule(" + what + ")", x.rule(what), want[what]);
            }
            due("the first is another", x.work(0, 0), 3);
            due("the second is gone", x.work(1, 0), BAD);
            due("readers are gone", x.reader(0, 0), BAD);
            tell(x, "reader 1 2;wind 7;");
            due("works are gone", x.rule(0), 0);
            due("WIND", x.rule(2), 7);
            tell(x, "damp 6;");
            due("WIND is as at first", x.rule(2), 4);
            due("DAMP", x.rule(3), 6);
            due("readers are gone", x.rule(1), 0);
        });
        says.term("nothing is SEEN;", () -> {
            RocketPrint x = full();
            for (int i = 0; i < 6; i++) {
                x.see(i, 0);
            }
            due("text", tell(x, "star 5 0 1;"), 1);
            due("SEEN", x.count(0), 0);
            due("forget(1)", x.forget(1), BAD);
            due("winds()", x.winds(), 511);
            due("see", x.see(0, 5), 1);
        });
        says.term("IMAGES are gone;", () -> {
            RocketPrint x = full();
            x.keep(0);
            x.keep(1);
            due("text", tell(x, ""), 0);
            due("IMAGES", x.count(1), 0);
            due("back(0)", x.back(0), STATE);
            due("back(1)", x.back(1), STATE);
            due("keep(0): there was none", x.keep(0), 0);
        });
        says.term("SHEETS stay.", () -> {
            RocketPrint x = new RocketPrint();
            x.sheet(0, 2, 40);
            x.sheet(3, 1, 4);
            for (int i = 0; i < 4; i++) {
                x.lay(3, i, i);
            }
            due("text", tell(x, "wind 1;"), 1);
            due("CELLS", x.count(3), 40);
            due("read", x.read(3, 1, 0, 1), 1);
            due("MINUTE", x.work(0, 2), 2);
            due("SHEET 1 has nothing yet", x.lay(1, 0, 0), -11);
        });
    }

    private void newObject() {
        says.promise(1, "No WORKS, no READERS;", () -> {
            RocketPrint x = new RocketPrint();
            due("WORKS", x.rule(0), 0);
            due("READERS", x.rule(1), 0);
            noneIsThere("work", w -> x.work(w, 0));
            noneIsThere("reader", r -> x.reader(r, 0));
            due("minutes", x.rule(4), 0);
            due("WHOLE", x.rule(5), 0);
            due("sky", x.sky(0), 0);
            due("dark", x.dark(), 80);
            due("POWER", x.count(4), 0);
            due("COUGHS", x.count(5), 0);
        });
        says.promise(1, "SHEETS have nothing.", () -> {
            RocketPrint x = new RocketPrint();
            due("CELLS", x.count(3), NONE);
            for (int k = 0; k < 4; k++) {
                due("lay of " + k, x.lay(k, 0, 0), -11);
                for (int lane = 0; lane < 3; lane++) {
                    due("read of " + k, x.read(k, lane, 0, 1), 0);
                    due("NULL", x.torn(), 1);
                }
            }
        });
    }

    private void tape() {
        says.promise(2, "A byte (0 to 127) comes behind THE TAPE: how many it has.", () -> {
            RocketPrint x = new RocketPrint();
            for (int c = 0; c < 128; c++) {
                due("feed(" + c + ")", x.feed(c), c + 1);
                due("count(2)", x.count(2), c + 1);
            }
            RocketPrint y = new RocketPrint();
            feedAll(y, "wind 1");
            due("feed(';')", y.feed(';'), 7);
            due("it came behind the others", y.text(), 1);
            due("feed after text()", y.feed('w'), 1);
        });
        says.promise(2, "BAD;", () -> {
            RocketPrint x = new RocketPrint();
            for (int c : new int[] {LOW, -128, -1, 128, 160, 255, 256, 256 + ' ', HIGH}) {
                due("feed(" + c + ")", x.feed(c), BAD);
            }
            due("none came", x.count(2), 0);
        });
        says.promise(2, "FULL: more than 160.", () -> {
            RocketPrint x = new RocketPrint();
            for (int n = 1; n <= 160; n++) {
                due("feed, " + n, x.feed(' '), n);
            }
            due("feed, 161", x.feed(' '), FULL);
            due("feed, 161 again", x.feed('?'), FULL);
            due("none came", x.count(2), 160);
            due("end(159)", x.end(159), 160);
            due("there is room for one", x.feed(' '), 160);
            due("and no more", x.feed(' '), FULL);
        });
        says.promise(3, "THE TAPE keeps its first n bytes: how many it had.", () -> {
            RocketPrint x = new RocketPrint();
            due("end(0) of none", x.end(0), 0);
            feedAll(x, "wind 1;damp 1;");
            due("end(14), all", x.end(14), 14);
            due("end(7)", x.end(7), 14);
            due("it has", x.count(2), 7);
            due("the first", x.text(), 1);
            due("WIND", x.rule(2), 1);
            due("DAMP", x.rule(3), 0);
            feedAll(x, "?");
            due("end(0)", x.end(0), 1);
            due("text() of none", x.text(), 0);
            feedAll(x, " ".repeat(160));
            due("end(160), full", x.end(160), 160);
            due("end(0), full", x.end(0), 160);
        });
        says.promise(3, "BAD (n above that, too).", () -> {
            RocketPrint x = new RocketPrint();
            for (int n : outside(0, 0)) {
                due("end(" + n + ") of none", x.end(n), BAD);
            }
            feedAll(x, "wind 1;");
            bounds("end of 7", 0, 7, x::end);
            feedAll(x, " ".repeat(160));
            bounds("end of 160", 0, 160, x::end);
        });
    }

    private void textAndFault() {
        says.promise(4, "THE TAPE (empty then, by a FAULT, too) tells all: how many lines;", () -> {
            RocketPrint x = new RocketPrint();
            due("text() of none", x.text(), 0);
            due("text", tell(x, LINES), 7);
            due("empty", x.count(2), 0);
            due("text", tell(x, "wind 1;?"), -17);
            due("empty by a FAULT, too", x.count(2), 0);
            due("text() of none", x.text(), 0);
            due("text", tell(x, "star"), -14);
            due("empty by a FAULT at the end", x.count(2), 0);
            due("feed begins anew", x.feed(' '), 1);
        });
        says.promise(4, "-10 less the place of its FAULT: that which was told stays.", () -> {
            for (int blanks = 0; blanks < 160; blanks++) {
                refused(" ".repeat(blanks) + "?", 1, blanks);
            }
            String[] faulty = {"?", "wind 1;damp 9;wind", "star 1 1 1;reader 1 1;123", "wind 7", "damp 1;star 1 1 10;",
                "star 0 0 1;".repeat(6) + "star", "reader 0 0;".repeat(4) + "reader 1 1;"};
            for (String text : faulty) {
                RocketPrint x = full();
                x.blow(7);
                x.damp(3);
                x.see(5, 4);
                x.keep(1);
                holds("is refused: " + text, tell(x, text) <= -10);
                int[] want = {6, 4, 7, 3};
                for (int what = 0; what < 4; what++) {
                    due("rule(" + what + ") after " + text, x.rule(what), want[what]);
                }
                for (int w = 0; w < 6; w++) {
                    due("POWER after " + text, x.work(w, 3), 9 - w);
                }
                for (int r = 0; r < 4; r++) {
                    due("AT after " + text, x.reader(r, 0), 3 * r + 1);
                }
                due("SEEN after " + text, x.count(0), 1);
                due("IMAGES after " + text, x.count(1), 1);
                due("back after " + text, x.back(1), 6);
            }
        });
        says.promise(5, "The FAULT of the latest text(); 0.", () -> {
            RocketPrint x = new RocketPrint();
            due("no text() yet", x.fault(), 0);
            String[] texts = {"?", "wind", "wind 9;", "wind 1;wind", "star 0 0 1;".repeat(6) + "star", "wind 1;", "damp 0", ""};
            int[] want = {1, 2, 3, 4, 5, 0, 2, 0};
            for (int i = 0; i < texts.length; i++) {
                tell(x, texts[i]);
                due("fault() of '" + texts[i] + "'", x.fault(), want[i]);
                due("asked again", x.fault(), want[i]);
            }
            tell(x, "?");
            x.feed('w');
            x.end(0);
            x.write(9, 9, 9, 9);
            due("until the next text()", x.fault(), 1);
        });
    }
}
