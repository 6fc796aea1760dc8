/** Part IV of the document, sentence by sentence: the tape, texts and their faults, what they bind to. */
public final class OrderEdgesTest {
    private static final Checks c = new Checks();
    private static final String[] WORDS = {"must", "force", "look", "ground", "handle", "vent", "lamp", "window", "day", "machine",
        "flights", "bent", "wear", "done", "since", "within", "if", "or", "and", "not"};

    public static void main(String[] args) {
        twentyBytes();
        fourHundred();
        end();
        twelveOrders();
        emptyThen();
        kindsAndDays();
        everyByte();
        everyWord();
        theEnd();
        clauses();
        clauseByClause();
        tasks();
        within();
        things();
        numbers();
        signs();
        blanks();
        deep();
        sixty();
        ofOnePlace();
        inForce();
        whomTheyBind();
        owed();
        late();
        force();
        mustLook();
        grounded();
        testsHold();
        words();
        c.end("OrderEdgesTest");
    }

    private static void fault(String text, int place, int what) {
        NearlyShut x = new NearlyShut();
        c.due("\"" + text + "\"", Checks.order(x, 0, 0, text), -2 - (1 + 8 * place + what));
        c.due("ORDERS behind \"" + text + "\"", x.count(4), 0);
        c.due("bytes behind \"" + text + "\"", x.count(8), 0);
    }

    private static void good(String text) {
        c.due("\"" + text + "\"", Checks.order(new NearlyShut(), 0, 0, text), 0);
    }

    private static NearlyShut machines(int many) {
        NearlyShut x = new NearlyShut();
        for (int i = 0; i < many; i++) x.machine();
        return x;
    }

    private static void twentyBytes() {
        c.sentence("Twenty bytes come behind the TAPE, of each number the highest first");
        for (int feeds = 1; feeds <= 2; feeds++) {
            for (int place = 0; place < 20; place++) {
                NearlyShut x = new NearlyShut();
                int blank = 0x20202020;
                if (feeds == 2) x.feed(blank, blank, blank, blank, blank);
                int[] n = {blank, blank, blank, blank, blank};
                // the byte 0x21 at that place alone
                n[place / 4] += 1 << 24 - 8 * (place % 4);
                c.due("bytes", x.feed(n[0], n[1], n[2], n[3], n[4]), 20 * feeds);
                c.due("a byte at " + place, x.order(0, 0), -2 - (1 + 8 * (20 * (feeds - 1) + place)));
            }
        }
        NearlyShut x = new NearlyShut();
        x.feed(-1, -1, -1, -1, -1);
        c.due("bytes of 255", x.order(0, 0), -3);
        x.feed(0x67726f75, 0x6e642020, 0x20202020, 0x20202020, 0x20202020);
        c.due("ground", x.order(0, 0), 0);
    }

    private static void fourHundred() {
        c.sentence("how many it has; NONE, and none comes, if it would have more than 400");
        NearlyShut x = new NearlyShut();
        for (int i = 1; i <= 20; i++) c.due("feed " + i, x.feed(0x20202020, 0x20202020, 0x20202020, 0x20202020, 0x20202020), 20 * i);
        c.due("a 21st", x.feed(0, 0, 0, 0, 0), -1);
        c.due("bytes", x.count(8), 400);
        x.end(381);
        c.due("401", x.feed(0, 0, 0, 0, 0), -1);
        c.due("381 still", x.count(8), 381);
        x.end(380);
        c.due("400", x.feed(0x20202020, 0x20202020, 0x20202020, 0x20202020, 0x20202020), 400);
        c.due("none of what was refused came", x.order(0, 0), -2 - (1 + 8 * 400));
        c.sentence("texts of at most 400 bytes");
        good("ground if 1=" + " ".repeat(387) + "1");
        fault("ground if 1=" + " ".repeat(387) + "]", 399, 0);
        fault("ground if 1=" + " ".repeat(388), 400, 0);
        // as many signs as there can be
        fault(";".repeat(400), 0, 0);
        fault("ground if " + "[".repeat(390), 20, 2);
        fault("ground if 1=1" + "+1".repeat(57) + "]".repeat(273), 13 + 114, 0);
    }

    private static void end() {
        c.sentence("The TAPE has its first n bytes alone: n");
        NearlyShut x = new NearlyShut();
        c.due("end 0 of none", x.end(0), 0);
        c.due("end 1 of none", x.end(1), -1);
        c.due("end -1 of none", x.end(-1), -1);
        x.feed(0x67726f75, 0x6e647878, 0x20202020, 0x20202020, 0x20202020);
        c.due("all of it", x.end(20), 20);
        c.due("more than it has", x.end(21), -1);
        c.due("below 0", x.end(-1), -1);
        c.due("bytes", x.count(8), 20);
        c.due("grounDxx without xx", x.end(6), 6);
        c.due("no more than that", x.end(7), -1);
        c.due("ground", x.order(0, 0), 0);
        x.feed(0x67726f75, 0x6e647878, 0x20202020, 0x20202020, 0x20202020);
        x.end(6);
        x.feed(0x20696620, 0x313d3120, 0x20202020, 0x20202020, 0x20202020);
        c.due("what comes then comes behind these", x.count(8), 26);
        c.due("ground if 1=1", x.order(0, 0), 1);
        x.feed(0x67726f75, 0x6e647878, 0x20202020, 0x20202020, 0x20202020);
        x.end(0);
        c.due("nothing is left", x.order(0, 0), -3);
    }

    private static void twelveOrders() {
        c.sentence("ORDERS 0 to 11");
        NearlyShut x = machines(1);
        for (int i = 0; i < 12; i++) c.due("ORDER " + i, Checks.order(x, i % 2, 0, i == 11 ? "look lamp" : "look vent"), i);
        c.due("a 13th", Checks.order(x, 0, 0, "look handle"), -1);
        c.due("a 13th with a fault", Checks.order(x, 0, 0, "?"), -1);
        c.due("its text stays", x.count(8), 1);
        c.due("ORDERS", x.count(4), 12);
        c.due("the 12th is a bulletin", x.takes(0, 11, true), true);
        c.due("and binds", x.bound(0, 3), 6);
        c.due("there is no 13th", x.takes(0, 12, true), false);
    }

    private static void emptyThen() {
        c.sentence("The TAPE, which is empty then, is an ORDER of a KIND from a DAY on");
        NearlyShut x = machines(1);
        c.due("an empty TAPE", x.order(0, 0), -3);
        c.due("ORDER 0", Checks.order(x, 0, 0, "ground"), 0);
        c.due("bytes", x.count(8), 0);
        c.due("empty again", x.order(0, 0), -3);
        c.due("a fault", Checks.order(x, 0, 0, "groun"), -3);
        c.due("bytes behind a fault", x.count(8), 0);
        c.due("no ORDER by a fault", x.count(4), 1);
        c.due("the next is 1", Checks.order(x, 0, 0, "ground"), 1);
        // an order that failed half way leaves nothing to the next one
        c.due("a late fault", Checks.order(x, 0, 0, "look vent; look lamp; must 3 within 0 if 1<2 and 5"), -2 - (1 + 8 * 50));
        c.due("a short one", Checks.order(x, 0, 0, "look handle"), 2);
        c.due("that alone binds", x.bound(0, 3), 1);
        c.due("nothing is owed", x.bound(0, 0), 0);
        for (int i = 0; i < 9; i++) c.due("a long one with a fault", Checks.order(x, 0, 0, "force " + sum(60) + " ?"), -2 - (1 + 8 * 126));
        c.due("a long one without", Checks.order(x, 0, 0, "force " + sum(57) + " if 1 = 1"), 3);
        c.due("is whole", x.bound(0, 2), 57);
    }

    private static void kindsAndDays() {
        c.sentence("of a KIND (0 law, 1 bulletin, 2 word), texts of at most 400 bytes, from a DAY on (NOW or later)");
        NearlyShut x = machines(1);
        x.clock(50);
        Checks.type(x, "ground");
        int[][] bad = {{-1, 50}, {3, 50}, {0, 49}, {0, 0}, {0, -1}, {0, 10000}, {3, 49}};
        for (int[] b : bad) c.due("KIND " + b[0] + " from " + b[1], x.order(b[0], b[1]), -1);
        c.due("the TAPE stays", x.count(8), 6);
        c.due("NOW", x.order(0, 50), 0);
        c.due("tomorrow", Checks.order(x, 1, 51, "ground"), 1);
        c.due("the last DAY", Checks.order(x, 2, 9999, "ground"), 2);
    }

    private static void everyByte() {
        c.sentence("0 a byte or WORD that can't stand there, or the end (behind the last byte)");
        for (int b = 0; b < 256; b++) {
            String sign = String.valueOf((char) b);
            boolean small = b >= 'a' && b <= 'z';
            boolean digit = b >= '0' && b <= '9';
            fault(sign, b == ' ' ? 1 : 0, 0);
            if (b == ' ') good("ground" + sign);
            else fault("ground" + sign, b == ';' ? 7 : small ? 0 : 6, 0);
            if (b == ' ') good("ground " + sign);
            else fault("ground " + sign, b == ';' ? 8 : 7, 0);
            if (b != ' ' && b != '[') fault("ground if " + sign, digit ? 11 : 10, 0);
            if (b == ' ' || b == ';') continue;
            // behind a whole fact a digit makes the number longer, all else can't stand there; + and - want more
            if (digit) good("ground if 1<2" + sign);
            else fault("ground if 1<2" + sign, b == '+' || b == '-' ? 14 : 13, 0);
            boolean compares = b == '<' || b == '=' || b == '>' || b == '+' || b == '-';
            fault("ground if 1" + sign, compares || digit ? 12 : 11, 0);
        }
        fault("ground if [", 11, 0);
    }

    private static void everyWord() {
        c.sentence("WORDS (small letters, as far as these go on): day (NOW), machine, flights, bent (of all its PARTS), wear (of all), done (TASKS with a STAMP KNOWN), since");
        for (int i = 0; i < WORDS.length; i++) {
            String w = WORDS[i];
            boolean clause = i < 4, thing = i >= 4 && i < 8, value = i >= 8 && i < 15;
            if (w.equals("ground")) good(w);
            else fault(w, clause ? w.length() : 0, 0);
            if (thing) good("look " + w);
            else fault("look " + w, 5, 0);
            if (value) good("force " + w);
            else fault("force " + w, 6, 0);
            if (value) good("force 1 - " + w);
            else fault("force 1 - " + w, 10, 0);
            if (value) good("ground if " + w + " = " + w);
            else if (!w.equals("not")) fault("ground if " + w + " = 1", 10, 0);
            else fault("ground if " + w + " = 1", 14, 0);
            if (!w.equals("if")) fault("ground " + w + " 1 = 1", 7, 0);
            if (!w.equals("or") && !w.equals("and")) fault("ground if 1 = 1 " + w + " 1 = 1", 16, 0);
            if (!w.equals("within")) fault("must 1 " + w + " 1", 7, 0);
            // one letter more, one less, one that is not small
            fault(w + "s", 0, 0);
            fault("x" + w, 0, 0);
            fault(w.substring(1), 0, 0);
            fault(w.substring(0, w.length() - 1), 0, 0);
            fault(Character.toUpperCase(w.charAt(0)) + w.substring(1), 0, 0);
            fault("force " + w + "x", 6, 0);
        }
        good("must1within2if3<day or4>wear and not5=bent;look lamp if[1<2]");
        fault("groundif 1<2", 0, 0);
        fault("mustnot 1 within 2", 0, 0);
        fault("force dayday", 6, 0);
        fault("force day day", 10, 0);
        fault("ground if day<1 orday<1", 16, 0);
    }

    private static void theEnd() {
        c.sentence("or the end (behind the last byte)");
        String whole = "must 1 within 2 if not [ day + 1 <= 2 or 1 = 1 ]";
        good(whole);
        for (int cut = 0; cut < whole.length(); cut++) {
            String text = whole.substring(0, cut);
            boolean can = cut == 15 || cut == 16;
            // inside a word its first byte is the fault
            String last = text.substring(text.lastIndexOf(' ') + 1);
            boolean piece = !last.isEmpty() && Character.isLetter(last.charAt(0)) && !java.util.Arrays.asList(WORDS).contains(last);
            if (can) good(text);
            else fault(text, piece ? cut - last.length() : cut, 0);
        }
        for (int blanks = 0; blanks < 5; blanks++) {
            fault(" ".repeat(blanks), blanks, 0);
            fault("look" + " ".repeat(blanks), 4 + blanks, 0);
            fault("ground;" + " ".repeat(blanks), 7 + blanks, 0);
        }
    }

    private static void clauses() {
        c.sentence("CLAUSE { ; CLAUSE }, 12 at most.");
        good("ground" + ";ground".repeat(11));
        good("must 1 within 1" + " ; look lamp".repeat(11));
        fault("ground" + ";ground".repeat(12), 12 * 7, 4);
        fault("ground;;ground", 7, 0);
        fault(";ground", 0, 0);
        fault("ground ground", 7, 0);
        c.sentence("4 a thirteenth CLAUSE (at its first byte)");
        String twelve = "ground" + ";ground".repeat(11);
        int length = twelve.length();
        for (String head : new String[] {"must", "force", "look", "ground", "must 99", "force 123456", "ground ?"}) {
            fault(twelve + ";" + head, length + 1, 4);
            fault(twelve + " ;  " + head, length + 4, 4);
        }
        fault(twelve + ";", length + 1, 0);
        fault(twelve + ";  ", length + 3, 0);
        // the twelfth binds
        NearlyShut x = machines(1);
        Checks.order(x, 0, 0, "ground if 1=2;".repeat(11) + "look window");
        c.due("the twelfth", x.bound(0, 3), 8);
    }

    private static void clauseByClause() {
        c.sentence("CLAUSE: must TASK within NUMBER [ if TEST ] | force SUM [ if TEST ] | look THING [ if TEST ] | ground [ if TEST ].");
        for (String body : new String[] {"must 1 within 2", "force 3", "look lamp", "ground"}) {
            int n = body.length();
            good(body);
            good(body + " if 1<2");
            good(body + ";" + body + " if 1<2;" + body);
            fault(body + " if", n + 3, 0);
            fault(body + " if;", n + 3, 0);
            fault(body + " if 1<2 if 1<2", n + 8, 0);
            fault(body + " [ if 1<2 ]", n + 1, 0);
            fault(body + " or 1<2", n + 1, 0);
            fault(body + " 1<2", n + 1, 0);
            fault("if 1<2 " + body, 0, 0);
        }
        c.sentence("Of a MACHINE what 0: OWED (TASK t is bit t), 1: LATE, 2: FORCE, 3: MUST LOOK");
        NearlyShut x = machines(1);
        Checks.order(x, 0, 0, "must 9 within 0; must 8 within 1; force 77; look window");
        x.clock(1);
        int[] due = {-1, 512 + 256, 512, 77, 8, 1, -1};
        for (int what = -1; what <= 5; what++) c.due("what " + what, x.bound(0, what), due[what + 1]);
    }

    private static void tasks() {
        c.sentence("TASK: a NUMBER, 0 to 9.");
        for (int task = 0; task <= 9; task++) {
            NearlyShut x = machines(1);
            c.due("must " + task, Checks.order(x, 0, 0, "must " + task + " within 0"), 0);
            c.due("OWED " + task, x.bound(0, 0), 1 << task);
        }
        fault("must 10 within 0", 5, 1);
        fault("must 11 within 0", 5, 1);
        fault("must 99999 within 0", 5, 1);
        fault("must 100000 within 0", 5, 1);
        fault("must 000009 within 0", 5, 1);
        good("must 00009 within 0");
        fault("must -1 within 0", 5, 0);
        fault("must day within 0", 5, 0);
        fault("must [1] within 0", 5, 0);
        fault("must within 0", 5, 0);
    }

    private static void within() {
        c.sentence("NUMBER of within: 0 to 999.");
        good("must 1 within 0");
        good("must 1 within 999");
        good("must 1 within 00999");
        fault("must 1 within 1000", 14, 1);
        fault("must 1 within 01000", 14, 1);
        fault("must 1 within 99999", 14, 1);
        fault("must 1 within 000999", 14, 1);
        fault("must 1 within 2147483648", 14, 1);
        fault("must 1 within 4294967296", 14, 1);
        fault("must 1 within", 13, 0);
        fault("must 1 within day", 14, 0);
        fault("must 1 within -1", 14, 0);
        fault("must 1 within 1 + 1", 16, 0);
    }

    private static void things() {
        c.sentence("THING: handle, vent, lamp, window.");
        String[] things = {"handle", "vent", "lamp", "window"};
        for (int i = 0; i < 4; i++) {
            NearlyShut x = machines(1);
            Checks.order(x, 0, 0, "look " + things[i]);
            c.due("look " + things[i], x.bound(0, 3), 1 << i);
        }
        fault("look hook", 5, 0);
        fault("look rod", 5, 0);
        fault("look handles", 5, 0);
        fault("look handle vent", 12, 0);
        fault("look handle + vent", 12, 0);
    }

    private static void numbers() {
        c.sentence("VALUE: NUMBER (1 to 5 digits, as far as digits go on) | WORD.");
        good("force 0");
        good("force 99999");
        good("force 00000");
        good("ground if 12345 < 12345");
        good("force 1 - 99999");
        c.sentence("1 a NUMBER of more digits, or not as told");
        fault("force 100000", 6, 1);
        fault("force 000000", 6, 1);
        fault("force 1 + 000000", 10, 1);
        fault("force  123456 ?", 7, 1);
        fault("ground if 123456", 10, 1);
        fault("ground if 1 < 123456", 14, 1);
        fault("ground if [ not 123456 < 1 ]", 16, 1);
        fault("force " + "9".repeat(394), 6, 1);
        fault("force 4294967297", 6, 1);
        fault("force 12 345", 9, 0);
        NearlyShut x = machines(1);
        Checks.order(x, 0, 0, "ground if 99999 = 33333 + 33333 + 33333 and 00012 = 12");
        c.due("what they are", x.bound(0, 4), 1);
    }

    private static void signs() {
        c.sentence("SUM SIGN SUM, SIGN one of < <= = >= >.");
        for (String sign : new String[] {"<", "<=", "=", ">=", ">"}) good("ground if 1" + sign + "2");
        String[] not = {"==", "=<", "=>", "<<", ">>", "<>", "><", "!=", "< =", "> ="};
        for (String sign : not) fault("ground if 1" + sign + "2", sign.charAt(0) == '!' ? 11 : sign.length() == 3 ? 13 : 12, 0);
        fault("ground if 1<==2", 13, 0);
        fault("ground if 1<2<3", 13, 0);
        fault("ground if <2", 10, 0);
        fault("ground if 1<", 12, 0);
        fault("ground if 1", 11, 0);
        fault("ground if [1]<2", 12, 0);
        fault("ground if 1<[2]", 12, 0);
        c.sentence("SUM: VALUE { (+ or -) VALUE }.");
        good("force 1+2-3+day-wear");
        fault("force +1", 6, 0);
        fault("force -1", 6, 0);
        fault("force 1+", 8, 0);
        fault("force 1++2", 8, 0);
        fault("force 1+-2", 8, 0);
        fault("force 1*2", 7, 0);
        fault("force (1)", 6, 0);
        c.sentence("FACT: not FACT | [ TEST ] (these brackets are signs)");
        good("ground if [ [ 1<2 ] ]");
        good("ground if not [1<2 or 2<3] and [3<4]");
        fault("ground if []", 11, 0);
        fault("ground if [1<2", 14, 0);
        fault("ground if [1<2;ground]", 14, 0);
        fault("ground if 1<2]", 13, 0);
        fault("ground if [1<2]]", 15, 0);
        fault("ground if [1<2] [1<2]", 16, 0);
        fault("ground if not not", 17, 0);
        fault("ground if 1<2 not 1<2", 14, 0);
        fault("ground if 1<2 and or 1<2", 18, 0);
        fault("ground [if 1<2]", 7, 0);
    }

    private static void blanks() {
        c.sentence("Blanks (32) stand between as one likes.");
        good("  must  3  within  4  if  1  <=  2  and  [  not  3  >  4  ]  ;  ground  ");
        good("must3within4if1<=2and[not3>4];ground");
        for (int b = 0; b < 33; b++) {
            if (b != ' ') fault("ground" + (char) b + "if 1<2", 6, 0);
            if (b != ' ') fault((char) b + "ground", 0, 0);
        }
        fault("gro und", 0, 0);
        fault("ground if 1 2<3", 12, 0);
        fault("ground if 1< =2", 13, 0);
    }

    private static void deep() {
        c.sentence("[ and not lie within one another 10 deep at most");
        for (int opens = 0; opens <= 12; opens++) {
            for (int mix = 0; mix < 3; mix++) {
                StringBuilder text = new StringBuilder("ground if ");
                StringBuilder shut = new StringBuilder();
                int eleventh = 0;
                for (int i = 0; i < opens; i++) {
                    if (i == 10) eleventh = text.length();
                    boolean not = mix == 0 || mix == 2 && i % 2 == 0;
                    text.append(not ? "not " : "[");
                    shut.append(not ? "" : "]");
                }
                text.append("1<2").append(shut);
                if (opens <= 10) good(text.toString());
                else fault(text.toString(), eleventh, 2);
            }
        }
        c.sentence("2 too deep (at the sign that opens, or the word not)");
        String ten = "[".repeat(10);
        fault("ground if " + ten + "  [", 22, 2);
        fault("ground if " + ten + "  not", 22, 2);
        fault("ground if " + ten + "  note", 22, 0);
        fault("ground if " + ten + "  ]", 22, 0);
        // what is shut again is deep no more
        String shut = ten + "1<2" + "]".repeat(10);
        good("ground if " + shut + " and " + shut + " or " + shut);
        good("ground if " + "[".repeat(9) + "[1<2] and [1<2] or not 1<2" + "]".repeat(9));
        good("ground if " + "not ".repeat(10) + "1<2 and " + "not ".repeat(10) + "1<2");
        good("ground if " + "not ".repeat(10) + "1<2; ground if " + ten + "1<2" + "]".repeat(10));
        fault("ground if " + shut + " and [" + shut + "]", 10 + 23 + 5 + 10, 2);
        fault("ground if " + "[".repeat(9) + "not 1<2 and [[1<2]]", 10 + 9 + 12 + 1, 2);
    }

    private static String sum(int values) {
        return "1" + "+1".repeat(values - 1);
    }

    private static void sixty() {
        c.sentence("at most 60 VALUES of TESTS and SUMS and FACTS made of a SIGN, together");
        good("force " + sum(60));
        fault("force " + sum(61), 6 + 120, 3);
        good("ground if 1<2" + " or 1<2".repeat(19));
        fault("ground if 1<2" + " or 1<2".repeat(20), 10 + 20 * 7, 3);
        good("ground if day<2" + " and day<2".repeat(19));
        fault("ground if day<2" + " and day<2".repeat(20), 10 + 20 * 10, 3);
        // tasks, numbers of within, things, not, brackets, and, or are not counted
        good("must 1 within 1;must 2 within 2;look lamp;ground;force " + sum(60));
        good("must 1 within 1 if " + "[".repeat(9) + "not 1<2" + " and 1<2".repeat(19) + "]".repeat(9));
        // over all clauses together
        good("force " + sum(20) + ";force " + sum(40));
        fault("force " + sum(20) + ";force " + sum(41), 6 + 39 + 7 + 80, 3);
        good("ground if 1<2;force " + sum(57));
        fault("ground if 1<2;force " + sum(58), 14 + 6 + 114, 3);
        good("force " + sum(57) + " if 1<2");
        c.sentence("3 one VALUE or FACT too many (at its first byte; of a FACT at its SIGN)");
        fault("force " + sum(58) + " if 1<2", 6 + 115 + 6, 3);
        fault("force " + sum(58) + " if 1<= 222", 6 + 115 + 8, 3);
        fault("force " + sum(58) + " if 1<day", 6 + 115 + 6, 3);
        fault("force " + sum(59) + " if 1<2", 6 + 117 + 5, 3);
        fault("force " + sum(59) + " if 1  >=2", 6 + 117 + 7, 3);
        fault("force " + sum(59) + " if 1+day<2", 6 + 117 + 6, 3);
        fault("force " + sum(60) + " if 1<2", 6 + 119 + 4, 3);
        fault("force " + sum(60) + " if [not wear<2]", 6 + 119 + 9, 3);
        // a new text begins to count anew
        NearlyShut x = new NearlyShut();
        c.due("60", Checks.order(x, 0, 0, "force " + sum(60)), 0);
        c.due("60 again", Checks.order(x, 0, 0, "force " + sum(60)), 1);
        c.due("61", Checks.order(x, 0, 0, "force " + sum(61)) < -2, true);
        c.due("60 behind a fault", Checks.order(x, 0, 0, "force " + sum(60)), 2);
    }

    private static void ofOnePlace() {
        c.sentence("Of one place the least.");
        fault("force " + sum(60) + "+?", 6 + 120, 0);
        fault("force " + sum(60) + "+", 6 + 120, 0);
        fault("force " + sum(60) + "+lamp", 6 + 120, 0);
        fault("force " + sum(60) + "+123456", 6 + 120, 1);
        fault("force " + sum(59) + " if 1?2", 6 + 117 + 5, 0);
        fault("ground 123456", 7, 0);
        fault("ground if 1 123456", 12, 0);
        String twelve = "ground" + ";ground".repeat(11);
        fault(twelve + ";grounds", twelve.length() + 1, 0);
        fault(twelve + ";123456", twelve.length() + 1, 0);
        c.sentence("FAULTS, the first along the text, 1 + 8 * its place and");
        fault("must 10 within 1000", 5, 1);
        fault("must 9 within 1000 if ?", 14, 1);
        fault("ground if ? < 123456", 10, 0);
        fault("ground if 123456 < ?", 10, 1);
        fault("ground if " + "[".repeat(11) + "?", 20, 2);
        fault("ground if " + "[".repeat(10) + "?", 20, 0);
    }

    private static void inForce() {
        c.sentence("IN FORCE: ORDERS whose DAY is not behind NOW.");
        NearlyShut x = machines(1);
        x.clock(9);
        x.mark(0);
        x.clock(10);
        Checks.order(x, 0, 10, "look handle");
        Checks.order(x, 0, 11, "look vent");
        Checks.order(x, 0, 9999, "look lamp");
        c.due("its own DAY", x.bound(0, 3), 1);
        x.clock(11);
        c.due("the next", x.bound(0, 3), 3);
        x.clock(9998);
        c.due("one ahead of the last", x.bound(0, 3), 3);
        x.clock(9999);
        c.due("the last", x.bound(0, 3), 7);
        x.back(0);
        c.due("gone back ahead of all", x.bound(0, 3), 0);
        x.clock(10);
        c.due("and on", x.bound(0, 3), 1);
    }

    private static void whomTheyBind() {
        c.sentence("They BIND whom: law all MACHINES; a bulletin those that took it, a word none.");
        NearlyShut x = machines(20);
        Checks.order(x, 0, 0, "look handle; force 500");
        Checks.order(x, 1, 0, "look vent; force 400; must 3 within 0; ground");
        Checks.order(x, 2, 0, "look lamp; force 300; must 4 within 0; ground");
        c.due("taken by the last", x.takes(19, 1, true), true);
        for (int machine = 0; machine < 20; machine++) {
            boolean took = machine == 19;
            c.due("MUST LOOK of " + machine, x.bound(machine, 3), took ? 3 : 1);
            c.due("FORCE of " + machine, x.bound(machine, 2), took ? 400 : 500);
            c.due("OWED of " + machine, x.bound(machine, 0), took ? 8 : 0);
            c.due("GROUNDED " + machine, x.bound(machine, 4), took ? 1 : 0);
        }
        c.sentence("A MACHINE takes a bulletin (ORDER) or not: whether that changed");
        c.due("again", x.takes(19, 1, true), false);
        c.due("not", x.takes(19, 1, false), true);
        c.due("not again", x.takes(19, 1, false), false);
        c.due("bound no more", x.bound(19, 3), 1);
        c.due("never taken, not", x.takes(0, 1, false), false);
        c.due("a law", x.takes(0, 0, true), false);
        c.due("a word", x.takes(0, 2, true), false);
        c.due("a word binds none still", x.bound(0, 3), 1);
        c.due("no ORDER", x.takes(0, 3, true), false);
        Checks.order(x, 1, 0, "look window");
        c.due("what came of that number then is not taken", x.bound(0, 3), 1);
    }

    private static void owed() {
        c.sentence("OWED of a MACHINE: TASKS of must CLAUSES, of ORDERS that bind it, whose TEST holds NOW (or that have none) and that have no STAMP KNOWN of it.");
        NearlyShut x = machines(2);
        c.due("no ORDERS", x.bound(0, 0), 0);
        x.clock(2);
        Checks.order(x, 0, 2, "must 0 within 9; must 9 within 9; must 5 within 9 if day = 3");
        c.due("the first and the last TASK", x.bound(0, 0), 1 | 1 << 9);
        x.clock(3);
        c.due("the TEST holds", x.bound(0, 0), 1 | 1 << 5 | 1 << 9);
        x.clock(4);
        c.due("no more", x.bound(0, 0), 1 | 1 << 9);
        x.stamp(1, 9, 0, 4);
        c.due("a STAMP of another MACHINE", x.bound(0, 0), 1 | 1 << 9);
        x.stamp(0, 8, 0, 4);
        c.due("a STAMP of another TASK", x.bound(0, 0), 1 | 1 << 9);
        x.stamp(0, 9, 15, 0);
        c.due("a STAMP of a DAY ahead of the ORDER", x.bound(0, 0), 1);
        x.see(0, 9, 4, false);
        c.due("a STAMP that surely is false is KNOWN all the same", x.bound(0, 0), 1);
        x.see(0, 0, 4, true);
        c.due("what was SEEN done has no STAMP", x.bound(0, 0), 1);
    }

    private static void late() {
        c.sentence("LATE: OWED, and NOW is more than so many DAYS (of within) behind that of the ORDER.");
        NearlyShut x = machines(1);
        x.clock(8999);
        Checks.order(x, 0, 9000, "must 0 within 0; must 1 within 1; must 2 within 998; must 3 within 999");
        int[][] days = {{8999, 0}, {9000, 0}, {9001, 1}, {9002, 3}, {9998, 3}, {9999, 7}};
        for (int[] d : days) {
            x.clock(d[0]);
            c.due("LATE on " + d[0], x.bound(0, 1), d[1]);
            c.due("GROUNDED on " + d[0], x.bound(0, 4), d[1] == 0 ? 0 : 1);
        }
        NearlyShut y = machines(1);
        Checks.order(y, 0, 0, "must 4 within 3 if day < 6; must 4 within 5");
        int[][] by = {{3, 0}, {4, 16}, {5, 16}, {6, 16}};
        for (int[] d : by) {
            y.clock(d[0]);
            c.due("by one of two CLAUSES on " + d[0], y.bound(0, 1), d[1]);
        }
        y.stamp(0, 4, 0, 6);
        c.due("stamped late is not LATE", y.bound(0, 1), 0);
        NearlyShut z = machines(1);
        Checks.order(z, 0, 0, "must 4 within 3 if day < 6");
        z.clock(5);
        c.due("its TEST holds", z.bound(0, 1), 16);
        z.clock(6);
        c.due("not OWED is not LATE", z.bound(0, 1), 0);
    }

    private static void force() {
        c.sentence("FORCE: the least of all force SUMS that hold, of ORDERS that bind it, held to 0 to 999 (999 without).");
        NearlyShut none = machines(1);
        c.due("without", none.bound(0, 2), 999);
        int[][] sums = {{0, 0, 0}, {1, 0, 1}, {998, 0, 998}, {999, 0, 999}, {1000, 0, 999}, {99999, 0, 999}, {0, 1, 0}, {5, 6, 0},
            {5, 5, 0}, {6, 5, 1}, {0, 99999, 0}, {99999, 99000, 999}, {99999, 99001, 998}};
        for (int[] s : sums) {
            NearlyShut x = machines(1);
            Checks.order(x, 0, 0, "force " + s[0] + " - " + s[1]);
            c.due("force " + s[0] + " - " + s[1], x.bound(0, 2), s[2]);
        }
        NearlyShut x = machines(1);
        Checks.order(x, 0, 0, "force 5000; force 300; force 400; force 200 if 1 = 2; force 350 if 1 = 1");
        c.due("the least that holds", x.bound(0, 2), 300);
        Checks.order(x, 0, 0, "force 299");
        c.due("of all ORDERS", x.bound(0, 2), 299);
        Checks.order(x, 0, 1, "force 1");
        c.due("in force", x.bound(0, 2), 299);
        Checks.order(x, 0, 0, "force 0 - 7; force 3");
        c.due("the least is below 0", x.bound(0, 2), 0);
        NearlyShut two = machines(2);
        Checks.order(two, 0, 0, "force 100 + machine; force 5 if machine = 1");
        for (int i = 0; i < 3; i++) {
            c.due("of the one", two.bound(1, 2), 5);
            c.due("of the other, asked behind it", two.bound(0, 2), 100);
        }
        NearlyShut most = machines(1);
        Checks.order(most, 0, 0, "force " + "0-99999" + "-99999".repeat(50));
        c.due("far below 0", most.bound(0, 2), 0);
        NearlyShut y = machines(1);
        Checks.order(y, 0, 0, "force " + "99999" + "+99999".repeat(50));
        c.due("far above", y.bound(0, 2), 999);
    }

    private static void mustLook() {
        c.sentence("MUST LOOK: all THINGS of look CLAUSES likewise, as bits.");
        NearlyShut x = machines(1);
        c.due("without", x.bound(0, 3), 0);
        Checks.order(x, 0, 0, "look handle if day >= 1; look vent if day >= 2; look lamp if day >= 3; look window if day >= 4");
        for (int day = 0; day <= 4; day++) {
            x.clock(day);
            c.due("on " + day, x.bound(0, 3), (1 << day) - 1);
        }
        Checks.order(x, 0, 4, "look handle");
        c.due("twice the same", x.bound(0, 3), 15);
    }

    private static void grounded() {
        c.sentence("GROUNDED: some ground CLAUSE holds likewise, or something is LATE.");
        NearlyShut x = machines(2);
        c.due("without", x.bound(0, 4), 0);
        Checks.order(x, 0, 0, "ground if machine = 1; ground if day = 1; must 3 within 2; must 4 within 3");
        int[][] days = {{0, 0, 1}, {1, 1, 1}, {2, 0, 1}, {3, 1, 1}};
        for (int[] d : days) {
            x.clock(d[0]);
            c.due("MACHINE 0 on " + d[0], x.bound(0, 4), d[1]);
            c.due("MACHINE 1 on " + d[0], x.bound(1, 4), d[2]);
        }
        x.stamp(0, 3, 0, 3);
        c.due("no more LATE", x.bound(0, 4), 0);
        x.clock(4);
        c.due("another is LATE", x.bound(0, 4), 1);
    }

    private static void holds(String test, boolean want) {
        NearlyShut x = machines(1);
        c.due("a TEST: " + test, Checks.order(x, 0, 0, "ground if " + test), 0);
        c.due(test, x.bound(0, 4), want ? 1 : 0);
    }

    private static void testsHold() {
        c.sentence("SIGN one of < <= = >= >.");
        for (int a = 0; a < 3; a++) {
            holds(a + " < 1", a < 1);
            holds(a + " <= 1", a <= 1);
            holds(a + " = 1", a == 1);
            holds(a + " >= 1", a >= 1);
            holds(a + " > 1", a > 1);
            // below 0 by a sum
            holds(a + " - 2 < 0 - 1", a - 2 < -1);
            holds(a + " - 2 >= 0 - 1", a - 2 >= -1);
        }
        c.sentence("TEST: PART { or PART }. PART: FACT { and FACT }.");
        for (int bits = 0; bits < 8; bits++) {
            boolean p = (bits & 1) != 0, q = (bits & 2) != 0, r = (bits & 4) != 0;
            String a = p ? "1=1" : "1=2", b = q ? "1=1" : "1=2", d = r ? "1=1" : "1=2";
            holds(a + " or " + b + " or " + d, p || q || r);
            holds(a + " and " + b + " and " + d, p && q && r);
            holds(a + " or " + b + " and " + d, p || q && r);
            holds(a + " and " + b + " or " + d, p && q || r);
            holds("[" + a + " or " + b + "] and " + d, (p || q) && r);
            holds(a + " and [" + b + " or " + d + "]", p && (q || r));
            holds("not " + a + " or " + b, !p || q);
            holds("not " + a + " and " + b, !p && q);
            holds("not [" + a + " or " + b + "]", !(p || q));
            holds("not not " + a, p);
            holds("not [not " + a + " and not [" + b + " and " + d + "]]", p || q && r);
        }
        c.sentence("SUM: VALUE { (+ or -) VALUE }.");
        holds("9 - 4 - 3 = 2", true);
        holds("9 - 4 + 3 = 8", true);
        holds("9 + 4 - 3 = 10", true);
        holds("1 + 1 = 3 - 1", true);
        // 28 values on the one side, 31 on the other, and the sign: the stack of all that can wait
        holds(sum(28) + " = " + sum(31), false);
        holds(sum(29) + " = " + sum(29), true);
        holds("[".repeat(10) + "1=2" + " or 1=2".repeat(18) + " or 1=1" + "]".repeat(10), true);
    }

    /** A law that binds MACHINE m to look at the lamp if the word is that much. */
    private static void is(NearlyShut x, int machine, String word, String much) {
        c.due("an ORDER of " + word, Checks.order(x, 0, x.count(0), "look lamp if " + word + " = " + much) >= 0, true);
        c.due(word + " is " + much, x.bound(machine, 3), 4);
    }

    private static void words() {
        c.sentence("day (NOW), machine, flights, bent (of all its PARTS), wear (of all), done (TASKS with a STAMP KNOWN)");
        NearlyShut first = machines(1);
        Checks.order(first, 0, 0, "ground if day + machine + flights + bent + wear + done + since > 0");
        c.due("all 0 at first, without PARTS", first.bound(0, 4), 0);
        int[] machine = {0, 19};
        for (int m : machine) {
            NearlyShut x = machines(20);
            is(x, m, "machine", "" + m);
            c.due("not another", x.bound(19 - m, 3), 0);
        }
        NearlyShut day = machines(1);
        day.clock(9999);
        is(day, 0, "day", "9999");
        NearlyShut flights = machines(1);
        for (int i = 0; i < 102; i++) flights.fly(0, 9999);
        is(flights, 0, "flights - 99999" + "-90000".repeat(10), "0");
        // the least and the greatest number of each part and machine; the neighbours in all rows have other wear
        for (int m : new int[] {0, 1, 18, 19}) {
            for (int own = 0; own < 24; own += 23) {
                NearlyShut x = machines(20);
                x.part(0, -1, 0, 11, 999, 0, 0);
                for (int part = 1; part < 24; part++) x.part(1, 0, 0, 91, 0, 0, 0);
                for (int next = Math.max(0, m - 1); next <= Math.min(19, m + 1); next++) {
                    x.turn(next, 0, 0, 40);
                    x.turn(next, 23, 0, 50);
                    x.push(next, next == m ? 7 : 11, 0);
                }
                x.turn(m, own, 0, 99);
                is(x, m, "wear", own == 0 ? "149" : "139");
                Checks.order(x, 0, 0, "look window if bent = " + 22 * 63);
                c.due("bent of " + m, x.bound(m, 3), 4 + 8);
            }
        }
        NearlyShut most = machines(1);
        most.part(0, -1, 0, 11, 999, 0, 0);
        for (int part = 1; part < 24; part++) most.part(1, 0, 0, 91, 0, 0, 0);
        for (int part = 0; part < 24; part++) most.turn(0, part, 0, 99);
        is(most, 0, "wear", "" + 24 * 99);
        for (int i = 0; i < 3; i++) most.push(0, 999, 0);
        is(most, 0, "bent - 99999 - 99999", "" + (23 * 9999 - 2 * 99999));
        NearlyShut done = machines(2);
        for (int task = 0; task < 10; task++) {
            done.stamp(1, task, task, 0);
            done.stamp(1, task, task, 0);
        }
        done.stamp(0, 0, 0, 0);
        is(done, 1, "done", "10");
        c.due("done of the other", done.bound(0, 3), 0);
        is(done, 0, "done", "1");
        for (int m : new int[] {0, 1, 18, 19}) {
            NearlyShut x = machines(20);
            for (int next = Math.max(0, m - 1); next <= Math.min(19, m + 1); next++) {
                for (int task = 0; task < 10; task++) if (next != m) x.stamp(next, task, task, 0);
            }
            is(x, m, "done", "0");
            x.stamp(m, 0, 0, 0);
            x.stamp(m, 9, 0, 0);
            Checks.order(x, 0, 0, "look window if done = 2; must 0 within 0; must 9 within 0; must 5 within 0");
            c.due("done of " + m, x.bound(m, 3), 8);
            c.due("OWED of " + m, x.bound(m, 0), 32);
        }
        c.sentence("since (DAYS gone since that of the ORDER, 0 at least)");
        NearlyShut since = machines(1);
        since.clock(5);
        Checks.order(since, 0, 5, "look handle if since = 0; look vent if since = 1; look lamp if since = 9994");
        Checks.order(since, 0, 6, "look window if since = 0");
        c.due("on its DAY", since.bound(0, 3), 1);
        since.clock(6);
        c.due("on the next, of each ORDER its own", since.bound(0, 3), 2 + 8);
        since.clock(9999);
        c.due("on the last", since.bound(0, 3), 4);
    }
}
