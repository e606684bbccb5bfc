import java.io.IOException;
import java.lang.reflect.InvocationTargetException;
import java.lang.reflect.Method;
import java.math.BigInteger;
import java.nio.file.Files;
import java.nio.file.Path;
import java.util.ArrayList;
import java.util.Arrays;
import java.util.HashMap;
import java.util.List;
import java.util.Map;

/**
 * One test for each sentence of the document, in its order, with the sentence ahead of it: ordinary
 * inputs, the edges that it names, wrong inputs. Answers were worked out by hand from the words.
 * The sentences together must be the whole document, so none can be left out.
 */
public final class SentenceTests {
    static final int BAD = CrossedFirst.BAD, NO = CrossedFirst.NO, FULL = CrossedFirst.FULL,
            NONE = CrossedFirst.NONE;
    static final Path DOCUMENT = Path.of("../shared/DOC.md");
    static final int MOST_CALLS = 512;
    static final int UNDO = 8;
    /** In place of an answer that was never given. */
    static final int THREW = 123456789;
    /** The plainest beast. */
    static final String B = "b1,1,0,0;";

    // ---- how a test is told

    static final Map<String, StringBuilder> said = new HashMap<>();
    static String section = "";
    static String sentence = "";
    static int sentences = 0;
    static int wrong = 0;

    static void section(String title) {
        section = title;
        said.put(title, new StringBuilder());
    }

    static void say(String words, Runnable test) {
        StringBuilder before = said.get(section);
        before.append(before.length() == 0 ? "" : " ").append(words);
        sentence = words;
        sentences++;
        test.run();
    }

    static void fail(String what) {
        wrong++;
        if (wrong <= 40) {
            System.out.println(section + ", \"" + sentence + "\": " + what);
        }
    }

    static final Map<String, Method> CALLS = new HashMap<>();

    static {
        for (Method m : CrossedFirst.class.getMethods()) {
            CALLS.put(m.getName(), m);
        }
    }

    /** A new object, with the calls that were made of it. */
    static final class Run {
        private final CrossedFirst x = new CrossedFirst();
        private final StringBuilder trail = new StringBuilder();
        private int calls = 0;

        int ask(String name, Integer... args) {
            calls++;
            if (calls > MOST_CALLS) {
                fail("the test makes more calls than the document speaks of");
            }
            try {
                return (Integer) CALLS.get(name).invoke(x, (Object[]) args);
            } catch (InvocationTargetException e) {
                fail(trail + name + Arrays.toString(args) + " threw " + e.getCause());
                return THREW;
            } catch (ReflectiveOperationException e) {
                throw new IllegalStateException(name + Arrays.toString(args), e);
            }
        }

        /**
         * A call, such as "where 0 1..3" or "lands -1|MIN": each way to choose its numbers, with
         * the answers in their order, or the one answer that all have.
         */
        Run due(String call, int... want) {
            String[] words = call.split(" ");
            List<Integer[]> ways = new ArrayList<>();
            choose(words, new Integer[words.length - 1], 0, ways);
            if (want.length != 1 && want.length != ways.size()) {
                throw new IllegalArgumentException(call + " has " + ways.size() + " ways");
            }
            for (int k = 0; k < ways.size(); k++) {
                int got = ask(words[0], ways.get(k));
                int due = want[want.length == 1 ? 0 : k];
                trail.append(words[0]).append(Arrays.toString(ways.get(k))).append(' ');
                if (got != due) {
                    fail(trail + "answered " + got + ", due is " + due);
                }
            }
            return this;
        }

        Run text(String text) {
            ask("wipe");
            for (int k = 0; k < text.length(); k++) {
                if (ask("write", (int) text.charAt(k)) != k + 1) {
                    fail("letter " + k + " of " + text);
                }
            }
            trail.append(text).append(' ');
            return this;
        }
    }

    static void choose(String[] words, Integer[] chosen, int at, List<Integer[]> ways) {
        if (at == chosen.length) {
            ways.add(chosen.clone());
            return;
        }
        for (int number : numbers(words[at + 1])) {
            chosen[at] = number;
            choose(words, chosen, at + 1, ways);
        }
    }

    static List<Integer> numbers(String word) {
        List<Integer> out = new ArrayList<>();
        int dots = word.indexOf("..");
        if (dots > 0) {
            int last = number(word.substring(dots + 2));
            for (int k = number(word.substring(0, dots)); k <= last; k++) out.add(k);
            return out;
        }
        for (String one : word.split("\\|")) out.add(number(one));
        return out;
    }

    static int number(String word) {
        return word.equals("MIN") ? Integer.MIN_VALUE
                : word.equals("MAX") ? Integer.MAX_VALUE : Integer.parseInt(word);
    }

    static Run fresh() {
        return new Run();
    }

    static Run written(String text) {
        return new Run().text(text);
    }

    static Run laid(String text) {
        Run run = written(text);
        if (run.ask("lay") < 1) {
            fail("is not laid: " + text);
        }
        return run;
    }

    /** Texts whose first fault is there: they are not laid either. */
    static void fault(int place, String... texts) {
        for (String text : texts) {
            written(text).due("fault", place).due("lay", NO);
        }
    }

    static void fine(String... texts) {
        for (String text : texts) {
            written(text).due("fault", NONE);
        }
    }

    static String times(int n, String item) {
        return item.repeat(n);
    }

    // ---- the document

    static void theText() {
        section("What it is");
        say("A TEXT is letters (200 at most),", () -> {
            String most = B + times(61, "w1;") + "w12;w34;";
            written(most).due("count 8", 200).due("write 59", FULL).due("count 8", 200)
                    .due("fault", NONE).due("lay", 1).due("count 1", 34);
            fault(198, times(66, "w1;") + "w1");
            fine("");
        });
        say("ITEMS one behind the other, each a letter, then numbers (one or two figures) parted"
                + " by , and a ; behind the last one:", () -> {
            fine("w1;", "w01;", "w10;", "w1;w2;w3;", "c1,1;", "c01,01;", B + "s0;", B + "s00;",
                    B + "v0,1;", B + "y0,1;", "b01,01,00,00;", B + B + "r00,01;");
            fault(0, "w;", "w001;", "w010;", "w100;", "w", "w1", "w12", "w1,", "w1,;", "w,1;",
                    "w1,2;", "w1.", "w1w", "w 1;", "w1 ;", " w1;", ";", "1;", ",", "W1;", "x1;",
                    "B1,1,0,0;", "w-1;", "w+1;", "ww1;", "w/;", "w:;", "w1/;", "w1:;");
            fault(0, "c1;", "c1,;", "c,1;", "c1,,1;", "c1;1;", "c1,1,1;", "c1,1", "c1,001;",
                    "b1,1,0;", "b1,1,0,0", "b1,1,0,0,0;", "b1,1,0,0,", "b1 1 0 0;", "b1;1;0;0;",
                    "b001,1,0,0;", "b1,1,0,000;");
            fault(9, B + "s;", B + "s0", B + "s0,0;", B + "v0;", B + "v0,1", B + "v0,1,1;",
                    B + "y0;", B + "y0,1,1;", B + "y0,001;");
            fault(27, B + B + B + "r0;", B + B + B + "r0,1,2;", B + B + B + "a0,1;",
                    B + B + B + "a0,1,2,0;", B + B + B + "a0,1,2");
            fault(3, "w1;;w2;", "w1; w2;", "w1; ", "w1;w", "w1;1;");
            fault(0, "~1;", "w~;", "!;");
        });
        say("bS,W,K,T a BEAST of S (1 to 9) yards a stroke,", () -> {
            laid("b1,2,0,0;b9,2,0,0;b5,2,0,0;w99;").due("beast 0..2 0", 1, 9, 5)
                    .due("where 0..2 1", 1, 9, 5).due("where 0..2 2", 2, 18, 10);
            fault(0, "b0,1,0,0;", "b10,1,0,0;", "b00,1,0,0;", "b99,1,0,0;");
        });
        say("of weight W (1 to 9),", () -> {
            laid("b2,1,0,0;b2,9,0,0;b2,5,0,0;").due("beast 0..2 1", 1, 9, 5);
            fault(0, "b1,0,0,0;", "b1,10,0,0;", "b1,99,0,0;");
        });
        say("of KIND K (0 SWIMMER, 1 LIGHT, 2 HELPER, 3 SLEEPER),", () -> {
            laid("b4,1,0,0;b4,1,1,0;b4,1,2,0;b4,1,3,0;w99;c0,1;")
                    .due("beast 0..3 2", 0, 1, 2, 3).due("where 0..3 1", 3, 4, 3, 0)
                    .due("where 0..3 4", 12, 16, 12, 3).due("where 0..3 5", 15, 20, 12, 6);
            fault(0, "b1,1,4,0;", "b1,1,10,0;", "b1,1,99,0;");
        });
        say("that starts behind minute T (0 to 30);", () -> {
            laid("b4,1,0,0;b4,1,0,30;b4,1,0,7;w4;").due("beast 0..2 3", 0, 30, 7)
                    .due("lands 0..2", 1, 31, 8);
            fault(0, "b1,1,0,31;", "b1,1,0,40;", "b1,1,0,99;");
        });
        say("8 at most, 0, 1, ..", () -> {
            StringBuilder eight = new StringBuilder();
            for (int k = 1; k <= 8; k++) eight.append("b").append(k).append(",1,0,0;");
            laid(eight.toString()).due("count 0", 8).due("beast 0..7 0", 1, 2, 3, 4, 5, 6, 7, 8)
                    .due("beast 8 0", BAD);
            fault(72, eight + B, eight + B + B);
            fine(eight + "w1;", eight + "s7;");
            // Each call knows the last of eight.
            laid(eight + "v7,8;y7,9;").due("lands 0..7", 30, 15, 10, 8, 6, 5, 5, 4)
                    .due("rank 0..7", 8, 7, 6, 5, 4, 2, 3, 1).due("where 7 1", 8)
                    .due("late 0|7", 30, 0).due("back 0 0..1", 7, 1).due("back 7 0..1", NONE, 1)
                    .due("twos", 0).due("bridge -1..1", 255, 1, 1).due("bridge 8", BAD)
                    .due("calm 0", 0).due("order 8", 7).due("harvest 8..9", 9, 18)
                    .due("odds 7 5 0 0", 1).due("river 0 0..1", 7, 30).due("seen 7 8", 1)
                    .due("rides 0", 0).due("forget", 1).due("rides 0", 57).due("start 7 30", 0)
                    .due("ride 7 6", NONE).due("rank 7", 2).due("keep", 1).due("leave 7", 6)
                    .due("restore", 0).due("beast 7 3..4", 30, 6);
        });
        say("wY the river is Y (1 to 99) yards wide", () -> {
            laid(B + "w1;").due("count 1", 1).due("lands 0", 1);
            laid(B + "w99;").due("count 1", 99).due("lands 0", 99);
            laid("w5;" + B).due("count 1", 5).due("lands 0", 5);
            fault(0, "w0;", "w00;", "w100;");
        });
        say("(30 without; the last one)", () -> {
            laid(B).due("count 1", 30).due("lands 0", 30);
            laid(B + "w5;w7;").due("count 1", 7).due("lands 0", 7);
            laid("w7;" + B + "w5;").due("count 1", 5).due("lands 0", 5);
            // Of another text a width does not stay.
            laid(B + "w7;").text(B).due("lay", 1).due("count 1", 30);
        });
        say("cM,C from minute M (0 to 99) on the CURRENT takes", () -> {
            laid(B + "c0,3;").due("current 1..2", 3).due("current 200", 3);
            laid(B + "c1,3;").due("current 1..2", 3);
            laid(B + "c2,3;").due("current 1..3", 0, 3, 3);
            laid(B + "c99,3;").due("current 97..100", 0, 0, 3, 3).due("current 200", 3);
            fault(9, B + "c100,3;");
        });
        say("C (0 to 5) yards of each stroke", () -> {
            laid("b9,1,0,0;c0,5;w99;").due("current 1", 5).due("where 0 0..3", 0, 4, 8, 12);
            laid("b9,1,0,0;c0,0;w99;").due("current 1", 0).due("where 0 0..3", 0, 9, 18, 27);
            laid("b9,1,0,0;c0,2;w99;").due("current 1", 2).due("where 0 0..3", 0, 7, 14, 21);
            fault(0, "c0,6;", "c0,10;", "c0,99;");
        });
        say("(none ahead;", () -> {
            laid(B).due("current 1|2|99|100|200", 0);
            laid("b9,1,0,0;c5,3;c9,1;w99;").due("current 1..6", 0, 0, 0, 0, 3, 3)
                    .due("where 0 3..6", 27, 36, 42, 48);
        });
        say("of those told the one of the greatest M that has begun,", () -> {
            laid(B + "c9,1;c3,2;c5,3;").due("current 2..10", 0, 2, 2, 3, 3, 3, 3, 1, 1);
            laid(B + "c3,2;c5,3;c9,1;").due("current 2..10", 0, 2, 2, 3, 3, 3, 3, 1, 1);
            laid(B + "c99,4;c0,1;").due("current 98..100", 1, 4, 4);
            laid(B + "c5,4;c7,0;").due("current 4..8", 0, 4, 4, 0, 0);
        });
        say("of several the last one);", () -> {
            laid(B + "c3,2;c3,4;c3,1;").due("current 2..4", 0, 1, 1);
            laid(B + "c5,1;c3,2;c5,3;").due("current 3..6", 2, 2, 3, 3);
            laid(B + "c0,5;c0,0;").due("current 1", 0);
        });
        say("4 at most", () -> {
            laid(B + "c1,1;c2,2;c3,3;c4,4;").due("count 2", 4).due("current 1..5", 1, 2, 3, 4, 4);
            fault(20, times(5, "c1,1;"));
            fault(21, "c11,1;c2,2;c3,3;c4,4;c0,0;w0;");
        });
        say("rI,J BEAST I RIDES on J (both told ahead, unlike;", () -> {
            laid(B + B + "r0,1;").due("beast 0..1 4", 1, NONE).due("count 4", 1);
            laid(B + B + "r1,0;").due("beast 0..1 4", NONE, 0).due("count 4", 1);
            fine(times(8, B) + "r7,0;r0,7;");
            fault(0, "r0,1;" + B + B);
            fault(9, B + "r0,1;" + B, B + "r1,0;" + B, B + "r0,0;");
            fault(18, B + B + "r0,2;", B + B + "r2,0;", B + B + "r1,1;", B + B + "r0,99;",
                    B + B + "r99,0;", B + B + "r0,2;" + B);
        });
        say("the last one of each I)", () -> {
            laid(B + B + B + B + "r0,1;r3,1;r0,2;").due("beast 0..3 4", 2, NONE, NONE, 1)
                    .due("count 4", 2);
            // 0 would ride on who rides, but for the last one.
            laid(B + B + B + "r0,1;r1,2;r0,2;").due("beast 0..2 4", 2, 2, NONE);
        });
        say("aI,J,K a RAFT of three BEASTS (told ahead, unlike);", () -> {
            laid(times(4, B) + "a3,0,2;").due("beast 0..3 5", 0, NONE, 0, 0).due("count 3", 1);
            fault(27, times(3, B) + "a0,1,3;", times(3, B) + "a0,3,1;", times(3, B) + "a3,0,1;",
                    times(3, B) + "a0,1,1;", times(3, B) + "a1,0,1;", times(3, B) + "a1,1,0;",
                    times(3, B) + "a2,2,2;", times(3, B) + "a0,1,3;" + B);
            fault(0, "a0,1,2;" + times(3, B));
        });
        say("2 at most", () -> {
            laid(times(8, B) + "a0,1,2;a3,4,5;").due("count 3", 2)
                    .due("beast 0..7 5", 0, 0, 0, 1, 1, 1, NONE, NONE);
            fault(86, times(8, B) + "a0,1,2;a3,4,5;a5,6,7;");
            fault(41, times(3, B) + "a0,1,2;a0,1,2;a0,1,2;");
        });
        say("sI BEAST I (told ahead) SPEAKS next:", () -> {
            laid(times(4, B) + "s2;s0;").due("beast 0..3 6", 1, 2, 0, 3);
            laid(times(4, B) + "s3;s2;s1;s0;").due("beast 0..3 6", 3, 2, 1, 0);
            fault(0, "s0;" + B);
            fault(9, B + "s1;", B + "s1;" + B, B + "s99;");
        });
        say("ahead of all of whom that is not told, behind those of whom it was", () -> {
            laid(times(3, B) + "s2;").due("beast 0..2 6", 1, 2, 0);
            laid(times(3, B)).due("beast 0..2 6", 0, 1, 2);
            // Who is told behind an s speaks behind those who were told by one.
            laid(B + B + "s1;" + B + B + "s3;").due("beast 0..3 6", 2, 0, 3, 1);
        });
        say("(told once more: no matter)", () -> {
            laid(times(4, B) + "s2;s0;s2;s0;s1;").due("beast 0..3 6", 1, 2, 0, 3);
            laid(times(3, B) + "s1;s1;s1;s2;").due("beast 0..2 6", 2, 0, 1);
        });
        say("vI,R BEAST I (told ahead) WANTS RANK R (1 to 8;", () -> {
            for (int r = 1; r <= 8; r++) {
                laid(B + "v0," + r + ";").due("order 0", r - 1);
            }
            fault(9, B + "v0,0;", B + "v0,9;", B + "v0,99;", B + "v1,1;", B + "v1,1;" + B);
            fault(0, "v0,1;" + B);
        });
        say("the last one of each)", () -> {
            laid(B + "v0,1;v0,8;v0,3;").due("order 0", 2);
            laid(B + B + "v0,1;v1,1;v0,2;").due("order 0..2", 0, 1, 0);
        });
        say("yI,V years of BEAST I (told ahead) bring a harvest of V (0 to 99;", () -> {
            laid(B + "y0,0;").due("harvest 1|99", 0);
            laid(B + "y0,99;").due("harvest 1|99", 99, 99 * 99);
            laid(B + B + "y1,5;y0,30;").due("harvest 1..3", 30, 35, 65);
            fault(9, B + "y0,100;", B + "y1,1;", B + "y1,1;" + B);
            fault(0, "y0,1;" + B);
        });
        say("0 without;", () -> {
            laid(B).due("harvest 1|99", 0);
            laid(B + B + B + "y1,5;").due("harvest 1..5", 0, 5, 5, 5, 10);
        });
        say("the last one of each)", () -> {
            laid(B + B + "y0,50;y1,4;y0,7;").due("harvest 1..2", 7, 11);
            laid(B + "y0,7;y0,0;").due("harvest 1", 0);
        });
        say("FAULT: the place of the first letter of the first ITEM that is not so.", () -> {
            fault(0, "w0;w0;", "w0;" + B);
            fault(3, "w1;w0;w0;");
            fault(9, B + "w0;c0,6;", B + "w1", B + "b1,1,0,31;" + B);
            fault(12, B + "w1;b1,1,4,0;w0;");
            fault(21, B + "w1;" + B + "c1,6;w0;");
            fault(199, B + times(58, "w1;") + times(4, "w12;") + "w");
        });
        say("An object is used for at most 512 calls after it has been made; what later calls"
                + " answer is free.", () -> {
            Run run = fresh();
            for (int k = 0; k < MOST_CALLS - 1; k++) {
                run.due("start 0 " + k % 31, k == 0 ? 0 : (k - 1) % 31);
            }
            run.due("count 6", UNDO);
        });
    }

    static void termsOfRivers() {
        section("Terms");
        say("LAID is a TEXT without FAULT,", () -> {
            laid(B + "w3;").due("count 0..1", 1, 3);
            written(B + "w0;").due("lay", NO).due("count 0..1", 6, 40);
            written("w0;" + B).due("lay", NO).due("count 0..1", 6, 40);
            written(B + "w3").due("lay", NO).due("write 59", 12).due("lay", 1);
        });
        say("of a BEAST at least,", () -> {
            written("").due("lay", NO);
            written("w5;").due("fault", NONE).due("lay", NO).due("count 0..1", 6, 40);
            written("c0,1;").due("fault", NONE).due("lay", NO);
            written(B).due("lay", 1);
        });
        say("nobody RIDING on who RIDES,", () -> {
            for (String rides : new String[] {"r0,1;r1,2;", "r1,2;r0,1;", "r0,1;r1,0;",
                "r2,0;r0,1;", "r0,2;r1,2;r2,0;"}) {
                written(times(3, B) + rides).due("fault", NONE).due("lay", NO).due("count 0", 6);
            }
            written(times(3, B) + "r0,2;r1,2;").due("lay", 3).due("count 4", 2);
            written(times(4, B) + "r0,1;r2,3;").due("lay", 4).due("count 4", 2);
        });
        say("nobody in two RAFTS,", () -> {
            for (String rafts : new String[] {"a0,1,2;a2,3,4;", "a0,1,2;a3,4,0;", "a0,1,2;a3,1,4;",
                "a0,1,2;a0,1,2;", "a0,1,2;a2,0,1;"}) {
                written(times(6, B) + rafts).due("fault", NONE).due("lay", NO).due("count 3", 1);
            }
            written(times(6, B) + "a0,1,2;a3,4,5;").due("lay", 6).due("count 3", 2);
            written(times(5, B) + "a0,1,2;a2,3,4;").due("lay", NO).text(times(3, B) + "a0,1,2;")
                    .due("lay", 3).due("count 3", 1);
        });
        say("nobody in a RAFT RIDING", () -> {
            for (String both : new String[] {"a0,1,2;r0,3;", "r1,3;a0,1,2;", "a0,1,2;r2,0;",
                "a3,4,5;a0,1,2;r2,3;"}) {
                written(times(6, B) + both).due("fault", NONE).due("lay", NO).due("count 4", 1);
            }
            written(times(6, B) + "a0,1,2;r3,0;r4,1;r5,1;").due("lay", 6).due("count 4", 3);
        });
        say("(NO else;", () -> {
            // What was laid stays, with all that was made of it.
            Run run = laid("b5,2,1,3;b4,1,0,0;b3,1,0,0;w9;c0,1;");
            run.due("start 0 4", 3).due("ride 1 2", NONE).due("keep", 1).due("seen 0 2", 1)
                    .text("w5;").due("lay", NO).due("count 0..8", 3, 9, 1, 0, 1, 1, 2, 1, 3)
                    .due("beast 0 0..6", 5, 2, 1, 4, NONE, NONE, 0).due("current 1", 1)
                    .due("undo", 1).due("undo", 0).due("beast 0 3", 3);
        });
        say("at first b3,1,1,0;b5,8,0,2;b7,6,2,0;b4,3,3,0;b6,4,0,1;b2,2,0,0;w40;c0,1;c8,2;r0,1;"
                + "a3,4,5;s5;s0;v0,1;v2,1;v1,3;y0,12;y1,30;y2,7;).", () -> firstRiver(fresh()));
    }

    static void firstRiver(Run run) {
        run.due("count 0..8", 6, 40, 2, 1, 1, 0, 0, 0, 0)
                .due("beast 0..5 0", 3, 5, 7, 4, 6, 2).due("beast 0..5 1", 1, 8, 6, 3, 4, 2)
                .due("beast 0..5 2", 1, 0, 2, 3, 0, 0).due("beast 0..5 3", 0, 2, 0, 0, 1, 0)
                .due("beast 0..5 4", 1, NONE, NONE, NONE, NONE, NONE)
                .due("beast 0..5 5", NONE, NONE, NONE, 0, 0, 0)
                .due("beast 0..5 6", 1, 2, 3, 4, 5, 0)
                .due("current 7..8", 1, 2).due("who 1..6", 2, 0, 1, 5, 3, 4)
                .due("harvest 1..6", 7, 19, 49, 49, 49, 49)
                .due("order 0..6", 1, 0, 2, 1, 3, 4, 5).due("calm 0", 0);
    }

    static void termsOfStrokes() {
        say("In minute m (1 first)", () ->
            laid("b5,1,0,0;w99;").due("where 0 0..3", 0, 5, 10, 15));
        say("each BEAST that is neither landed nor RIDING nor in a RAFT,", () -> {
            laid("b5,1,0,0;w7;").due("where 0 0..4", 0, 5, 7, 7, 7).due("where 0 200", 7);
            // The rider is fast and starts first, but makes no stroke of its own.
            laid("b2,1,0,1;b9,1,0,0;r1,0;w99;").due("where 0..1 0..3", 0, 0, 2, 4, 0, 0, 2, 4);
            laid("b9,1,0,0;b1,1,0,0;b1,1,0,0;a0,1,2;w99;").due("where 0..2 1", 3);
        });
        say("and starts behind less than m, makes a stroke:", () -> {
            laid("b5,1,0,2;w99;").due("where 0 0..4", 0, 0, 0, 5, 10);
            laid("b5,1,0,30;w99;").due("where 0 29..32", 0, 0, 5, 10);
            laid("b5,1,0,0;w99;").due("start 0 3", 0).due("where 0 2..5", 0, 0, 5, 10);
        });
        say("S less the CURRENT", () ->
            laid("b5,1,0,0;c0,2;c3,4;w99;").due("where 0 0..5", 0, 3, 6, 7, 8, 9));
        say("and a third of what those weigh, together, that RIDE on it (cut),", () -> {
            int[] strokes = {9, 9, 8, 8, 8, 7, 7, 7, 6};
            for (int w = 1; w <= 9; w++) {
                laid("b9,1,0,0;b1," + w + ",0,0;r1,0;w99;").due("where 0..1 1", strokes[w - 1]);
            }
            laid("b9,1,0,0;b1,1,0,0;b1,1,0,0;r1,0;r2,0;w99;").due("where 0 1", 9);
            laid("b9,1,0,0;b1,2,0,0;b1,2,0,0;r1,0;r2,0;w99;").due("where 0 1", 8);
            laid("b9,1,0,0;b1,2,0,0;b1,2,0,0;b1,2,0,0;r1,0;r2,0;r3,0;w99;").due("where 0 1", 7);
            laid("b9,9,0,0;b1,5,0,0;r1,0;c0,2;w99;").due("where 0 1", 6);
            // Its own weight and that of those who ride on others do not matter.
            laid("b9,9,0,0;b9,9,0,0;b1,9,0,0;r2,1;w99;").due("where 0..1 1", 9, 6);
            laid("b9,1,0,0;b1,9,0,0;r1,0;w99;").due("leave 1", 0).due("where 0..1 1", 9, 1);
        });
        say("1 at least.", () -> {
            laid("b1,1,0,0;c0,5;w99;").due("where 0 0..2", 0, 1, 2);
            laid("b5,1,0,0;c0,5;w99;").due("where 0 1", 1);
            laid("b5,1,0,0;c0,4;w99;").due("where 0 1", 1);
            laid("b2,1,0,0;b1,9,0,0;r1,0;w99;").due("where 0 1", 1);
            laid("b3,1,0,0;b1,6,0,0;r1,0;c0,1;w99;").due("where 0 1", 1);
            laid("b9,1,0,0;" + times(7, "b1,9,0,0;") + "r1,0;r2,0;r3,0;r4,0;r5,0;r6,0;r7,0;w99;")
                    .due("where 0 0..2", 0, 1, 2);
        });
        say("By KIND: of a LIGHT one's strokes the CURRENT takes 1 yard less (nothing at least);",
            () -> {
                int[] strokes = {9, 9, 8, 7, 6, 5};
                for (int c = 0; c <= 5; c++) {
                    laid("b9,1,1,0;b9,1,0,0;w99;c0," + c + ";")
                            .due("where 0..1 1", strokes[c], 9 - c);
                }
                // Of no other kind; less the load all the same; 1 at least.
                laid("b9,1,0,0;b9,1,2,0;b9,1,3,0;c0,2;w99;").due("where 0..2 4", 28, 28, 7);
                laid("b9,1,1,0;b1,6,0,0;r1,0;c0,2;w99;").due("where 0 1", 6);
                laid("b1,1,1,0;c0,5;w99;").due("where 0 1", 1);
                // That a light one rides makes nothing lighter.
                laid("b9,1,0,0;b1,1,1,0;r1,0;c0,2;w99;").due("where 0..1 1", 7);
            });
        say("a HELPER makes no stroke in each fifth minute (5, 10, ..),", () -> {
            laid("b2,1,2,0;b2,1,0,0;w99;")
                    .due("where 0 0..11", 0, 2, 4, 6, 8, 8, 10, 12, 14, 16, 16, 18)
                    .due("where 1 4..6", 8, 10, 12).due("where 1 9..11", 18, 20, 22);
            laid("b2,1,2,4;w99;").due("where 0 4..6", 0, 0, 2);
            laid("b2,1,2,29;w99;").due("where 0 29..31", 0, 0, 2);
            // Who rides on one rests with it; one that rides does not hold up who bears it.
            laid("b2,1,2,0;b2,1,0,0;r1,0;w99;").due("where 1 4..6", 8, 8, 10);
            laid("b2,1,0,0;b2,1,2,0;r1,0;w99;").due("where 1 4..6", 8, 10, 12);
        });
        say("and in the ones behind these (6, 11, ..) the CURRENT takes nothing", () -> {
            laid("b4,1,0,0;b1,1,2,0;w60;c0,2;").due("where 0 0..17",
                    0, 2, 4, 6, 8, 10, 14, 16, 18, 20, 22, 26, 28, 30, 32, 34, 38, 40);
            laid("b4,1,0,0;b1,1,0,0;w60;c0,2;").due("where 0 5..6", 10, 12);
            laid("b4,1,0,0;b1,1,2,0;b1,6,0,0;r2,0;w60;c0,1;").due("where 0 5..7", 5, 7, 8);
        });
        say("of strokes of BEASTS that are no HELPERS,", () -> {
            laid("b4,1,2,0;w60;c0,2;").due("where 0 0..7", 0, 2, 4, 6, 8, 8, 10, 12);
            laid("b4,1,2,0;b4,1,2,0;w60;c0,2;").due("where 0..1 5..6", 8, 10, 8, 10);
            laid("b4,1,1,0;b1,1,2,0;w60;c0,3;").due("where 0 0..7", 0, 2, 4, 6, 8, 10, 14, 16);
            laid("b4,1,3,0;b1,1,2,0;w60;c0,2;").due("where 0 0..7", 0, 0, 0, 0, 2, 4, 8, 10);
        });
        say("if any HELPER (RIDING or not, in a RAFT or not, landed or not)", () -> {
            laid("b4,1,0,0;b1,1,2,0;w60;c0,2;r1,0;").due("where 0 5..7", 10, 14, 16);
            laid("b4,1,0,0;b1,1,2,0;b1,1,0,0;w60;c0,2;r1,2;").due("where 0 5..7", 10, 14, 16);
            laid("b4,1,0,0;b1,1,2,0;" + B + B + "a1,2,3;w60;c0,2;").due("where 0 5..7", 10, 14, 16)
                    .due("where 1 5..7", 5, 6, 7);
            laid("b4,1,0,0;b9,1,2,0;w20;c0,2;").due("lands 1", 3).due("where 0 5..9",
                    10, 14, 16, 18, 20);
            // No kind but a helper helps.
            laid("b4,1,0,0;b1,1,1,0;b1,1,3,0;w60;c0,2;").due("where 0 5..7", 10, 12, 14);
        });
        say("starts behind less than m;", () -> {
            laid("b4,1,0,0;b1,1,2,5;w60;c0,2;").due("where 0 5..6", 10, 14);
            laid("b4,1,0,0;b1,1,2,6;w60;c0,2;").due("where 0 5..6", 10, 12)
                    .due("where 0 10..11", 20, 24);
            laid("b4,1,0,0;b1,1,2,6;w60;c0,2;r1,0;").due("where 0 5..6", 10, 12)
                    .due("where 0 10..11", 20, 24);
            laid("b4,1,0,0;b1,1,2,30;b1,1,2,0;w60;c0,2;").due("where 0 5..6", 10, 14);
            laid("b4,1,0,0;b1,1,2,0;b1,1,2,30;w60;c0,2;").due("where 0 5..6", 10, 14);
            laid("b4,1,0,0;b1,1,2,30;w99;c0,2;").due("where 0 26..27", 52, 54)
                    .due("where 0 30..31", 60, 64);
            laid("b4,1,0,0;b1,1,2,0;w60;c0,2;").due("start 1 6", 0).due("where 0 5..6", 10, 12);
        });
        say("a SLEEPER makes none in the three minutes behind its START.", () -> {
            laid("b4,1,3,0;w60;").due("where 0 0..6", 0, 0, 0, 0, 4, 8, 12);
            laid("b4,1,3,2;w60;").due("where 0 2..7", 0, 0, 0, 0, 4, 8);
            laid("b4,1,3,30;w4;").due("lands 0", 34);
            laid("b4,1,3,0;w60;").due("start 0 5", 0).due("where 0 7..9", 0, 0, 4);
            laid("b4,1,3,0;b4,1,0,0;r1,0;w60;").due("where 1 3..4", 0, 4);
            laid("b4,1,0,0;b4,1,3,0;r1,0;w60;").due("where 1 0..2", 0, 4, 8);
        });
        say("A RAFT makes a stroke, if all three start behind less than m:", () -> {
            for (String starts : new String[] {"0 1 3", "0 3 1", "1 0 3", "1 3 0", "3 0 1", "3 1 0"}) {
                String[] t = starts.split(" ");
                laid("b4,1,0," + t[0] + ";b4,1,0," + t[1] + ";b4,1,0," + t[2] + ";a0,1,2;w60;")
                        .due("where 0..2 3..5", 0, 4, 8, 0, 4, 8, 0, 4, 8);
            }
            laid("b4,1,0,0;b4,1,0,0;b4,1,0,0;b4,1,0,9;a0,1,2;w60;").due("where 0 0..2", 0, 4, 8)
                    .due("start 3 20", 9).due("where 0 1", 4).due("start 1 30", 0)
                    .due("where 0 29..32", 0, 0, 4, 8);
            // Who is in none of them does not hold them up, whoever is asked for first.
            laid("b4,1,0,9;b4,1,0,0;b4,1,0,0;b4,1,0,2;b4,1,0,0;b4,1,0,0;b4,1,0,0;a1,2,3;a4,5,6;w8;")
                    .due("lands 0..6", 11, 4, 4, 4, 2, 2, 2).due("who 1..7", 4, 5, 6, 1, 2, 3, 0);
        });
        say("the third of the sum of their S (cut)", () -> {
            String[] three = {"1 1 1", "1 1 2", "1 2 2", "2 2 2", "9 1 1", "9 9 9", "9 9 8", "9 8 8"};
            int[] strokes = {1, 1, 1, 2, 3, 9, 8, 8};
            for (int k = 0; k < three.length; k++) {
                String[] s = three[k].split(" ");
                laid("b" + s[0] + ",1,0,0;b" + s[1] + ",1,0,0;b" + s[2] + ",1,0,0;b9,1,0,0;"
                        + "a0,1,2;w99;").due("where 0..3 2", 2 * strokes[k], 2 * strokes[k],
                        2 * strokes[k], 18);
            }
            laid("b1,1,0,0;b2,1,0,0;b3,1,0,0;b4,1,0,0;b5,1,0,0;b6,1,0,0;a0,2,4;a1,3,5;w99;")
                    .due("where 0..5 1", 3, 4, 3, 4, 3, 4);
        });
        say("less the CURRENT (as it is, without help),", () -> {
            laid("b4,1,0,0;b4,1,0,0;b4,1,0,0;b1,1,2,0;a0,1,2;c0,2;w60;")
                    .due("where 0 0..7", 0, 2, 4, 6, 8, 10, 12, 14);
            laid("b4,1,2,0;b4,1,0,0;b4,1,0,0;a0,1,2;c0,2;w60;").due("where 0 4..7", 8, 10, 12, 14);
            laid("b4,1,1,0;b4,1,1,0;b4,1,1,0;a0,1,2;c0,2;w60;").due("where 0 0..2", 0, 2, 4);
        });
        say("1 at least;", () -> {
            laid(B + B + B + "a0,1,2;c0,5;w60;").due("where 0 0..2", 0, 1, 2);
            laid("b5,1,0,0;b5,1,0,0;b5,1,0,0;a0,1,2;c0,5;w60;").due("where 0 0..2", 0, 1, 2);
        });
        say("KINDS and who RIDES on them do not matter to that.", () -> {
            for (int k = 0; k <= 3; k++) {
                String one = "b4,1," + k + ",0;";
                laid(times(3, one) + "a0,1,2;c0,1;w60;")
                        .due("where 2 0..11", 0, 3, 6, 9, 12, 15, 18, 21, 24, 27, 30, 33);
            }
            laid("b4,1,0,0;b4,1,0,0;b4,1,0,0;b1,9,0,30;b1,9,0,30;a0,1,2;r3,0;r4,2;w60;")
                    .due("where 0..4 2", 8);
        });
        say("Who RIDES is where the one is on whom he RIDES,", () -> {
            laid("b5,1,0,2;b9,2,3,30;r1,0;c0,1;w12;").due("where 0 0..6", 0, 0, 0, 4, 8, 12, 12)
                    .due("where 1 0..6", 0, 0, 0, 4, 8, 12, 12).due("lands 0..1", 5)
                    .due("leave 1", 0).due("where 1 5", 0).due("lands 1", 35).due("ride 1 0", NONE)
                    .due("where 1 5", 12);
        });
        say("who is in a RAFT where that is.", () ->
            laid("b9,1,0,1;b2,1,0,0;b1,1,0,0;b9,1,0,0;a0,1,2;r3,1;w9;")
                    .due("where 0..3 3", 8).due("where 0..3 4", 9).due("lands 0..3", 4));
        say("Who is at least as far as the river is wide has LANDED in that minute.", () -> {
            laid("b5,1,0,0;w9;").due("lands 0", 2);
            laid("b5,1,0,0;w10;").due("lands 0", 2);
            laid("b5,1,0,0;w11;").due("lands 0", 3);
            laid("b9,1,0,0;w1;").due("lands 0", 1);
        });
        // A stroke is 1 yard at least, so the slowest that a text can tell lands in minute 153:
        // nobody is on the way for 200 minutes, and no run shows who never lands.
        say("Strokes are made by 200 minutes; who has not LANDED by then never does.", () -> {
            laid("b1,9,2,30;w99;c0,5;").due("where 0 151..154", 97, 98, 99, 99)
                    .due("where 0 199..200", 99).due("lands 0", 153);
            laid("b1,9,3,30;w99;c0,5;").due("where 0 131..133", 98, 99, 99).due("lands 0", 132);
        });
    }

    static void termsOfRanks() {
        say("RANK (1 first): by the minute of LANDING,", () -> {
            laid("b2,1,0,0;b9,1,0,0;b5,1,0,0;w9;").due("lands 0..2", 5, 1, 2)
                    .due("rank 0..2", 3, 1, 2).due("who 1..3", 1, 2, 0);
            // Who speaks first is behind who lands first.
            laid("b2,1,0,0;b9,1,0,0;b5,1,0,0;w9;s0;s2;").due("who 1..3", 1, 2, 0);
        });
        say("who never LANDS last;", () ->
            laid("b1,1,2,30;b1,1,0,30;b1,1,3,30;w99;s0;").due("lands 0..2", 153, 129, 132)
                    .due("who 1..3", 1, 2, 0));
        say("of those alike who SPEAKS first (who is told by s, as told;", () -> {
            laid(times(4, B) + "w1;s2;s1;").due("who 1..4", 2, 1, 0, 3);
            // Alike by the minute, not by how far: 1 would be at 9 yards.
            laid("b5,1,0,0;b9,1,0,0;w5;").due("who 1..2", 0, 1);
            laid("b5,1,0,0;b9,1,0,0;w5;s1;").due("who 1..2", 1, 0);
        });
        say("then the others, by number);", () -> {
            laid(times(4, B) + "w1;").due("who 1..4", 0, 1, 2, 3);
            laid(times(4, B) + "w1;s3;").due("who 1..4", 3, 0, 1, 2);
        });
        say("but who RIDES, and LANDS, is right ahead of the one on whom he RIDES:", () -> {
            laid("b5,1,0,0;b5,1,0,0;b5,1,0,0;r2,0;").due("who 1..3", 2, 0, 1);
            laid("b5,1,0,0;b5,1,0,0;b5,1,0,0;r2,0;s1;").due("who 1..3", 1, 2, 0);
            laid("b5,1,0,0;b5,1,0,0;b5,1,0,0;r2,1;").due("who 1..3", 0, 2, 1);
            // A rider who speaks first does not bring the one that bears it ahead of others.
            laid("b5,1,0,0;b5,1,0,0;b5,1,0,0;r2,1;s2;").due("who 1..3", 0, 2, 1);
            // One who rides on a raft is right ahead of the one of the three that bears it.
            laid(times(4, B) + "a0,1,2;r3,1;").due("who 1..4", 0, 3, 1, 2);
            laid("b1,1,0,0;b9,1,0,0;b5,1,0,0;r0,1;").due("rank 0..2", 1, 2, 3);
        });
        say("of several riders of one the one who SPEAKS first.", () -> {
            laid("b9,1,0,0;b1,1,0,0;b1,1,0,0;b1,1,0,0;r1,0;r2,0;r3,0;s2;")
                    .due("who 1..4", 2, 1, 3, 0);
            laid("b9,1,0,0;b1,1,0,0;b1,1,0,0;b1,1,0,0;r3,0;r2,0;r1,0;")
                    .due("who 1..4", 1, 2, 3, 0);
            laid("b9,1,0,0;b1,1,0,0;b1,1,0,0;b9,1,0,0;r1,0;r2,0;s3;s0;s2;")
                    .due("who 1..4", 3, 2, 1, 0);
            // 2 bears 1 and 2 and goes 8, 0 bears 3 and goes 4.
            laid("b5,1,0,0;b5,1,0,0;b9,1,0,0;b1,1,0,0;b2,2,0,0;b3,3,0,0;w10;s5;s1;r3,2;r4,2;r5,0;s4;")
                    .due("lands 0..5", 3, 2, 2, 2, 2, 3).due("rank 0..5", 6, 1, 4, 3, 2, 5);
        });
        say("A START can be changed;", () ->
            laid("b5,1,0,0;b4,1,0,0;w20;").due("who 1..2", 0, 1).due("start 0 3", 0)
                    .due("beast 0 3", 3).due("lands 0", 7).due("who 1..2", 1, 0)
                    .due("start 0 0", 3).due("beast 0 3", 0).due("who 1..2", 0, 1));
        say("one can RIDE on another one, or leave it.", () ->
            laid("b5,1,0,0;b1,1,0,0;w20;").due("lands 1", 20).due("ride 1 0", NONE)
                    .due("lands 1", 4).due("who 1..2", 1, 0).due("leave 1", 0).due("lands 1", 20)
                    .due("who 1..2", 0, 1));
        say("UNDONE is the latest of these", () ->
            laid("b5,1,0,3;b4,1,0,0;b4,1,0,0;").due("ride 0 1", NONE).due("start 0 9", 3)
                    .due("ride 0 2", 1).due("leave 0", 2)
                    .due("undo", 3).due("beast 0 3..4", 9, 2).due("undo", 2).due("beast 0 3..4", 9, 1)
                    .due("undo", 1).due("beast 0 3..4", 3, 1).due("undo", 0)
                    .due("beast 0 3..4", 3, NONE).due("undo", NO).due("beast 0 3..4", 3, NONE)
                    // What is undone is not done again; the next change is the latest then.
                    .due("start 1 7", 0).due("undo", 0).due("beast 1 3", 0));
        say("(the last 8 can be).", () -> {
            Run run = laid("b5,1,0,3;b4,1,0,0;b4,1,0,0;");
            run.due("start 0 1", 3).due("ride 1 2", NONE).due("start 1 5", 0).due("leave 1", 2)
                    .due("start 2 6", 0).due("ride 0 1", NONE).due("ride 0 2", 1).due("start 0 8", 1)
                    .due("count 6", 8);
            run.due("start 0 9", 8).due("count 6", 8).due("leave 0", 2).due("count 6", 8);
            for (int left = 7; left >= 0; left--) run.due("undo", left);
            // The two oldest stay.
            run.due("undo", NO).due("beast 0..2 3", 1, 0, 0).due("beast 0..2 4", NONE, 2, NONE);
        });
    }

    static void termsOfWhatWouldBe() {
        say("LATE: the latest START (0 to 30) by which a BEAST, all else being as it is, would have"
                + " no worse RANK than now.", () -> {
            laid(B).due("late 0", 30);
            laid(B + "w1;").due("start 0 30", 0).due("late 0", 30);
            // 0 lands two minutes behind its start, 1 in 4, 2 in 31; 0 speaks ahead of 1.
            laid("b5,1,0,0;b5,1,0,2;b9,1,0,29;w10;").due("late 0..2", 2, 29, 30);
            laid("b5,1,0,0;b5,1,0,2;b9,1,0,29;w10;s1;").due("late 0", 1);
            laid("b5,1,0,0;b5,1,0,0;w5;").due("late 0..1", 0, 30);
            laid("b9,1,0,30;b1,1,0,30;w9;").due("late 0..1", 30);
            // Who rides does not start by itself.
            laid("b5,1,0,0;b5,1,0,0;b5,1,0,0;r2,0;w5;").due("late 0..2", 0, 30, 30);
            // With what has been changed: 1 bears 2 and lands in 3, so 0 has a minute more.
            laid("b5,1,0,0;b5,1,0,0;b1,9,0,0;w5;").due("ride 2 1", NONE).due("late 0", 2);
            // A rank is kept, not the landing: behind 9 or 10 the helper would help 1 in 11 and be
            // second, behind 11 or 12 it would not, and be first.
            laid("b9,1,2,0;b6,1,0,0;w27;c0,5;").due("rank 0", 1).due("late 0", 12)
                    .due("start 0 9", 0).due("rank 0", 2).due("start 0 12", 9).due("rank 0", 1)
                    .due("start 0 13", 12).due("rank 0", 2);
            // A better one is no worse: behind 6 the helper does not help 1 in 6 and all land in 8.
            laid("b9,1,2,5;b4,1,0,0;b1,1,0,0;w8;c0,3;").due("lands 0..2", 7, 6, 8)
                    .due("late 0", 6).due("start 0 6", 5).due("lands 0..2", 8).due("rank 0", 1);
            // A raft waits for the last of the three.
            laid("b5,1,0,4;b5,1,0,0;b5,1,0,0;b5,1,0,6;a0,1,2;w10;").due("late 0..2", 6)
                    .due("late 3", 30);
        });
        say("BACK: on whom a BEAST (on whom nobody RIDES, in no RAFT) would have to RIDE, instead"
                + " (on one who does not RIDE), so that its RANK is best,", () -> {
            laid("b1,1,0,0;b5,1,0,0;b9,1,0,0;w18;").due("back 0 0..1", 2, 1);
            // 0 rides on 1 and has rank 2; instead, on 2, it would be first.
            laid("b1,1,0,0;b5,1,0,0;b9,1,0,0;w18;r0,1;").due("rank 0", 2).due("back 0 0..1", 2, 1);
            // It is heavy: 2 alone would bear it over in a minute.
            laid("b1,9,0,0;b6,1,0,0;b8,1,0,0;b7,1,0,0;w5;").due("back 0 0..1", 2, 2);
            // 3 rides already, so nobody can ride on it.
            laid("b1,1,0,0;b2,1,0,0;b9,1,0,0;b8,1,0,0;r3,2;w18;s3;").due("back 0 0..1", 2, 2);
            // On one of a raft; on one that bears another already.
            laid("b1,1,0,0;b6,1,0,0;b6,1,0,0;b6,1,0,0;w18;a1,2,3;").due("back 0 0..1", 1, 1);
            laid("b1,1,0,0;b9,1,0,0;b1,1,0,0;r2,1;w18;").due("back 0 0..1", 1, 1);
            laid(times(4, B) + "a0,1,2;").due("back 0..2 0..1", NO).due("back 3 0..1", 0, 1);
            laid(B + B + "r0,1;").due("back 1 0..1", NO).due("back 0 0..1", NONE, 1);
            // 6 rides on 2 already; on 1, who lands as soon and speaks ahead, it would be first.
            laid("b1,1,0,0;b9,1,0,0;b9,1,0,0;b3,9,0,0;b3,9,0,0;b3,9,0,0;b2,1,0,0;a3,4,5;r6,2;w18;")
                    .due("back 0|6 0..1", 1, 1, 1, 1).due("back 2..5 0..1", NO);
        });
        say("of several the lowest", () -> {
            // Whoever bears 0 lands in 3, the two others in 2.
            laid("b1,9,0,0;b9,1,0,0;b9,1,0,0;b9,1,0,0;w13;").due("back 0 0..1", 1, 3);
            laid("b1,9,0,0;b9,1,0,0;b9,1,0,0;b9,1,0,0;w13;r0,3;").due("back 0 0..1", 1, 3);
        });
        say("(on nobody, if that is as good): it; the RANK.", () -> {
            laid("b9,1,0,0;b5,1,0,0;w9;").due("back 0 0..1", NONE, 1);
            laid("b9,1,0,0;b5,1,0,0;w9;r0,1;").due("back 0 0..1", NONE, 1);
            laid(B).due("back 0 0..1", NONE, 1);
            laid("b5,1,0,0;b9,9,0,0;b5,1,0,0;w9;").due("back 0 0..1", 1, 1).due("back 1 0..1", NONE, 1);
        });
        say("TWOS: the most BEASTS that can RIDE at once, one on each at most, LIGHT ones on heavier"
                + " ones that are not LIGHT, of those in no RAFT (whoever RIDES now).", () -> {
            laid(B).due("twos", 0);
            laid("b1,1,1,0;b1,2,0,0;").due("twos", 1);
            laid("b1,2,1,0;b1,2,0,0;").due("twos", 0);
            laid("b1,8,1,0;b1,9,0,0;").due("twos", 1);
            laid("b1,9,0,0;b1,8,1,0;").due("twos", 1);
            laid("b1,9,1,0;b1,9,0,0;").due("twos", 0);
            laid("b1,1,1,0;b1,5,1,0;").due("twos", 0);
            laid("b1,1,0,0;b1,5,2,0;b1,7,3,0;").due("twos", 0);
            laid("b1,1,1,0;b1,1,1,0;b1,1,1,0;b1,9,0,0;b1,9,2,0;b1,9,3,0;").due("twos", 3);
            laid("b1,1,1,0;b1,1,1,0;b1,9,3,0;").due("twos", 1);
            laid("b1,1,1,0;b1,2,1,0;b1,2,0,0;b1,3,0,0;").due("twos", 2);
            // The heavy light one needs the heaviest back, the other one is left.
            laid("b1,1,1,0;b1,5,1,0;b1,9,0,0;b1,2,0,0;").due("twos", 2);
            laid("b1,8,1,0;b1,1,1,0;b1,1,1,0;b1,9,0,0;b1,2,0,0;").due("twos", 2);
            laid("b1,5,1,0;b1,6,1,0;b1,6,0,0;b1,6,0,0;").due("twos", 1);
            laid(times(4, "b1,1,1,0;") + times(4, "b1,2,0,0;")).due("twos", 4);
            // Whoever rides now; nobody in a raft.
            laid("b1,1,1,0;b1,9,2,0;b1,9,0,0;r1,0;").due("twos", 1);
            laid("b1,1,1,0;b1,9,2,0;b1,1,1,0;r0,1;r2,1;").due("twos", 1);
            laid("b1,1,1,0;b1,9,2,0;b1,9,0,0;b1,9,0,0;a1,2,3;").due("twos", 0);
            laid("b1,1,1,0;b1,1,0,0;b1,1,0,0;b1,9,0,0;a0,1,2;").due("twos", 0);
            laid("b1,1,1,0;b1,9,2,0;b1,9,0,0;b1,1,1,0;b1,9,0,0;a0,1,2;").due("twos", 1);
        });
        say("BRIDGE: BEASTS (bits) that would have RANK 1 over rivers of 1 to 99 yards;", () -> {
            laid(B).due("bridge -1", 1);
            laid("b1,1,0,0;b9,1,0,0;").due("bridge -1", 3);
            laid("b1,1,0,0;b9,1,0,0;s1;").due("bridge -1", 2);
            laid(times(8, B) + "s7;").due("bridge -1", 128);
            // 1 is first over 99 yards alone: 0 is at 98 in minute 14, 1 at 99.
            laid("b7,1,0,0;b9,1,0,3;").due("bridge -1", 3);
            // 0 is first over 1 yard alone.
            laid("b1,1,0,0;b9,1,0,1;s1;").due("bridge -1", 3);
            // Who rides on the first one has rank 1.
            laid("b9,1,0,0;b1,1,0,0;b1,1,0,0;r1,0;r2,0;s2;").due("bridge -1", 4);
            laid("b9,1,0,0;b9,1,0,0;b9,1,0,0;a0,1,2;b1,1,0,0;r3,2;s2;").due("bridge -1", 8);
        });
        say("over how many of these widths a BEAST would.", () -> {
            // In minute m 0 is at 5m and 1 at 9(m - 1): 0 is first over 1 to 15 and over 19 and 20.
            laid("b5,1,0,0;b9,1,0,1;w1;").due("bridge 0..1", 17, 82);
            laid("b5,1,0,0;b9,1,0,1;w99;").due("bridge 0..1", 17, 82);
            laid("b7,1,0,0;b9,1,0,3;").due("bridge 0..1", 98, 1);
            // Both are at 9 yards in minute 1; then 0 goes 4 and 1, a light one, 5.
            laid("b9,1,0,0;b9,1,1,0;c2,5;").due("bridge 0..1", 9 + 4 + 3 + 2 + 1, 80);
            laid("b1,1,0,0;b9,1,0,1;s1;").due("bridge 0..1", 1, 98);
            laid(B).due("bridge 0", 99);
            laid("b9,1,0,0;b1,1,0,0;b1,1,0,0;r1,0;r2,0;s2;").due("bridge 0..2", 0, 0, 99);
        });
    }

    static void termsOfWants() {
        String three = "b9,1,0,0;b5,1,0,0;b2,1,0,0;";
        say("CALM: twos (i below j) who both WANT a RANK and would both be nearer to it, were their"
                + " RANKS changed: how many;", () -> {
            // Ranks 1, 2, 3.
            laid(three + "v0,3;v1,1;v2,1;").due("calm 0", 2);
            laid(three + "v0,3;v1,2;v2,1;").due("calm 0", 1);
            laid(three + "v0,2;v1,1;").due("calm 0", 1);
            laid(three).due("calm 0", 0);
            laid(three + "v0,3;").due("calm 0", 0);
            laid(three + "v2,1;").due("calm 0", 0);
            laid(three + "v0,1;v1,2;v2,3;").due("calm 0", 0);
            // 0 would be as far off as it is, from 2, were it third: that is no nearer.
            laid(three + "v0,2;v2,1;").due("calm 0", 0);
            laid(three + "v0,3;v2,2;").due("calm 0", 0);
            // Nearer is enough, it need not be the one that is wanted.
            laid(three + "v0,8;v1,1;").due("calm 0", 1);
            // Of all twos of eight, last first.
            laid(times(8, B) + "w1;v0,8;v1,8;v2,8;v3,8;v4,1;v5,1;v6,1;v7,1;").due("calm 0", 16);
            laid(B).due("calm 0", 0);
        });
        say("the first, as 8 times the one and the other; none.", () -> {
            laid(three + "v0,3;v1,1;v2,1;").due("calm 1", 1);
            laid(three + "v0,3;v1,2;v2,1;").due("calm 1", 2);
            laid(three + "v1,8;v2,2;").due("calm 1", 10);
            laid(times(8, B) + "w1;v6,8;v7,1;").due("calm 1", 55);
            laid(three + "v0,3;").due("calm 1", NONE);
            laid(B).due("calm 1", NONE);
            // i below j though j has the better rank.
            laid("b1,1,0,0;b9,1,0,0;v0,1;v1,2;").due("who 1..2", 1, 0).due("calm 0..1", 1, 1);
        });
        say("ORDER of all WANTS: of all ways to give RANKS 1 to as many as there are BEASTS that by"
                + " which all that WANT one are fewest RANKS off, together,", () -> {
            String four = times(4, B);
            laid(four + "v3,1;v2,2;v1,3;v0,4;").due("order 0..4", 0, 3, 2, 1, 0);
            laid(four + "v0,4;v1,4;v2,4;v3,4;").due("order 0", 6);
            laid(four + "v3,1;v2,1;v0,8;").due("order 0..4", 5, 2, 3, 1, 0);
            laid(B + "v0,8;").due("order 0..1", 7, 0);
            laid(times(8, B) + "v0,8;v1,8;v2,8;v3,8;v4,8;v5,8;v6,8;v7,8;")
                    .due("order 0", 28);
            // It does not go by the ranks that they have.
            laid("b1,1,0,0;b9,1,0,0;").due("who 1..2", 1, 0).due("order 0..2", 0, 0, 1);
        });
        say("of several the first (by who has RANK 1, the lowest, then RANK 2, ..): how many off;"
                + " who has a RANK.", () -> {
            laid(times(4, B) + "s3;").due("order 0..4", 0, 0, 1, 2, 3);
            laid(times(3, B) + "v2,1;v1,1;").due("order 0..3", 1, 1, 2, 0);
            laid(times(3, B) + "v2,2;").due("order 0..3", 0, 0, 2, 1);
            laid(times(3, B) + "v0,2;v1,2;").due("order 0..3", 1, 0, 1, 2);
            laid(times(8, B) + "v0,8;").due("order 0..8", 0, 1, 2, 3, 4, 5, 6, 7, 0);
        });
        say("HARVEST over n (1 to 99) years: each year is of the one of the next RANK, RANK 1 first,"
                + " round: together.", () -> {
            Run run = laid("b2,1,0,0;b9,1,0,0;b5,1,0,0;y0,7;y1,20;y2,3;");
            run.due("who 1..3", 1, 2, 0).due("harvest 1..7", 20, 23, 30, 50, 53, 60, 80)
                    .due("harvest 98..99", 32 * 30 + 23, 33 * 30);
            run.due("start 1 30", 0).due("who 1..3", 2, 0, 1).due("harvest 1..4", 3, 10, 30, 33);
            laid(B + "y0,9;").due("harvest 1..3", 9, 18, 27);
            laid(times(8, B) + "y0,1;y7,50;w1;").due("harvest 7..9", 1, 51, 52);
        });
    }

    static void odds(Run run, int i, int n, int x, int above, int below) {
        run.due("odds " + i + " " + n + " " + x + " 0..1", above, below);
    }

    static void termsOfFloods() {
        // 0 lands in 2, 1 in 2 and speaks behind; a flood in minute 1 holds up 0 alone.
        String two = "b3,1,0,0;b6,1,0,1;w6;";
        // 1 sleeps until 5 and lands in 6; so does 0 at the latest, unless 1 to 5 are all flooded.
        String five = "b3,1,0,0;b9,1,3,2;w6;";
        say("ODDS: in each of the next n (0 to 5) minutes, from the first one on,", () -> {
            odds(laid(two), 0, 0, 5, 1, 1);
            odds(laid(two), 1, 0, 10, 0, 1);
            odds(laid(two), 1, 1, 10, 1, 1);
            odds(laid(five), 1, 4, 10, 0, 1);
            odds(laid(five), 1, 5, 10, 1, 1);
        });
        say("there is a flood by the chance of x (0 to 10) of ten for itself,", () -> {
            for (int x = 0; x <= 10; x++) {
                int[] above = {0, 1, 1, 3, 2, 1, 3, 7, 4, 9, 1};
                int[] below = {1, 10, 5, 10, 5, 2, 5, 10, 5, 10, 1};
                for (int n = 1; n <= 5; n++) odds(laid(two), 1, n, x, above[x], below[x]);
            }
            odds(laid(five), 1, 5, 3, 243, 100000);
            odds(laid(five), 0, 5, 3, 99757, 100000);
            odds(laid(five), 1, 5, 1, 1, 100000);
            odds(laid(five), 1, 5, 9, 59049, 100000);
        });
        say("in which nobody makes a stroke:", () -> {
            // Neither beast nor raft nor who rides; the flood does not wake a sleeper later.
            odds(laid("b9,1,0,0;b9,1,0,0;b9,1,0,0;b9,1,0,1;a0,1,2;w18;"), 3, 1, 10, 0, 1);
            odds(laid("b9,1,0,0;b9,1,0,0;b9,1,0,0;b9,1,0,1;a0,1,2;w18;s3;"), 3, 1, 10, 1, 1);
            odds(laid("b9,1,0,0;b9,1,0,0;b9,1,0,0;b9,1,0,1;a0,1,2;w18;s3;"), 3, 1, 0, 0, 1);
            odds(laid("b3,1,0,0;b9,1,3,0;w6;"), 1, 3, 5, 1, 8);
        });
        say("the chance that a BEAST is first, in lowest terms.", () -> {
            odds(laid(two), 0, 2, 5, 1, 2);
            odds(laid(two), 0, 5, 4, 3, 5);
            odds(laid(two), 1, 5, 0, 0, 1);
            odds(laid(two), 0, 5, 0, 1, 1);
            odds(laid(five), 1, 5, 5, 1, 32);
            odds(laid(five), 0, 5, 5, 31, 32);
            odds(laid(five), 1, 5, 2, 1, 3125);
            // First is who has rank 1: the rider.
            odds(laid(two + "b1,1,0,0;r2,1;"), 2, 1, 3, 3, 10);
            odds(laid(two + "b1,1,0,0;r2,1;"), 1, 1, 3, 0, 1);
            odds(laid(B), 0, 5, 3, 1, 1);
        });
        say("SEEN (6 at most) is the RANK that a BEAST had.", () -> {
            fresh().due("seen 0 1", 1).due("seen 0 1", 2).due("seen 5 6", 3).due("seen 2 3", 4)
                    .due("seen 2 4", 5).due("seen 1 1", 6).due("seen 1 1", FULL).due("count 5", 6)
                    .due("forget", 6).due("seen 1 1", 1);
            laid("b9,1,0,0;b5,6,0,0;b2,1,0,0;w18;").due("seen 2 1", 1).due("rides 0..1", 1, 16)
                    .due("forget", 1).due("seen 2 2", 1).due("rides 0..1", 1, 17);
        });
        String three = "b9,1,0,0;b5,6,0,0;b2,1,0,0;w18;";
        say("RIDES: of all ways that nobody RIDES, or one on one", () -> {
            laid(B).due("rides 0", 1);
            laid(B + B).due("rides 0", 3);
            laid(three).due("rides 0", 7);
            laid(times(8, B)).due("rides 0", 57);
        });
        say("(first i, then j;", () -> {
            laid(three).due("rides 1", 1);
            // 1 is first if 0 rides on 2 or 1 on 0.
            laid(three).due("seen 1 1", 1).due("rides 0..1", 2, 2);
            // 1 is third if 2 rides on 0 (then 2, 0, 1) or on 1 (then 0, 2, 1).
            laid(three).due("seen 1 3", 1).due("rides 0..1", 2, 16);
        });
        say("such as LAID would be),", () -> {
            laid(times(3, B) + "a0,1,2;").due("rides 0", 1);
            laid(times(4, B) + "a0,1,2;").due("rides 0..1", 4, 24);
            laid(times(8, B) + "a0,1,2;a5,6,7;").due("rides 0..1", 15, 24);
        });
        say("in place of those who do,", () -> {
            laid(three + "r2,0;").due("seen 2 3", 1).due("seen 0 1", 2).due("rides 0..1", 3, 1);
            laid(three + "r2,0;r1,0;").due("rides 0", 7).due("seen 1 1", 1).due("rides 0..1", 2, 2)
                    .due("beast 1..2 4", 0);
            // With the starts as they are now.
            laid(three).due("start 0 30", 0).due("seen 0 3", 1).due("rides 0..1", 5, 8);
        });
        say("those by which all that was SEEN is so: how many;", () -> {
            Run run = laid(three);
            run.due("seen 0 1", 1).due("rides 0", 4).due("seen 1 2", 2).due("rides 0", 3)
                    .due("seen 2 3", 3).due("rides 0", 3).due("seen 1 1", 4).due("rides 0", 0)
                    .due("forget", 4).due("rides 0", 7);
        });
        say("the first, as 8 times i and j", () -> {
            laid("b9,1,0,0;b5,1,0,0;w9;").due("seen 1 1", 1).due("rides 0..1", 1, 8);
            laid(times(7, B) + "b9,1,0,0;w9;").due("seen 6 1", 1).due("rides 0..1", 1, 55);
        });
        say("(nobody: 64, behind all others); none.", () -> {
            laid(B).due("rides 1", 64).due("seen 0 1", 1).due("rides 0..1", 1, 64);
            laid(times(3, B) + "a0,1,2;").due("rides 1", 64);
            laid("b9,1,0,0;b5,1,0,0;w9;").due("seen 0 1", 1).due("rides 0..1", 2, 1);
            // On whomever of the raft 3 rides, it is ahead of that one.
            laid("b5,1,0,0;b5,1,0,0;b5,1,0,0;b1,1,0,0;w9;a0,1,2;").due("seen 3 4", 1)
                    .due("rides 0..1", 1, 64).due("seen 0 4", 2).due("rides 0..1", 0, NONE);
        });
        say("A RIVER by z (0 to 9999): the CURRENT in minute m takes ((x times x) modulo 65521)"
                + " modulo 6, x being 7919 z, 6151 m and 1 together:", () -> {
            for (int z : new int[] {0, 1, 4242, 9999}) {
                for (int w = 1; w <= 99; w++) {
                    laid("b9,1,0,0;c0,5;w" + w + ";").due("river " + z + " 1", minuteBy(z, w));
                }
            }
            // By 0 it takes 3, 3, 3, 2, 5, 2, 4: of a light one less, in minute 6 nothing by help.
            laid("b9,1,0,0;w36;").due("river 0 1", 6);
            laid("b9,1,0,0;w37;").due("river 0 1", 7);
            laid("b9,1,1,0;w29;").due("river 0 1", 4);
            laid("b9,1,1,0;w30;").due("river 0 1", 5);
            laid("b9,1,0,0;b1,9,2,0;r1,0;w20;").due("river 0 1", 6);
            laid("b9,1,0,0;b1,9,2,0;r1,0;w21;").due("river 0 1", 7);
            laid("b9,1,0,0;b9,1,0,0;b9,1,0,0;a0,1,2;w36;").due("river 0 1", 6);
        });
        say("who is first;", () -> {
            // By 0 the current takes 3 and 3, by 2 nothing and 5: 1 lands in 2, or 0 does.
            laid("b5,1,0,0;b9,1,0,1;w6;").due("river 0|2 0", 1, 0).due("who 1", 0);
            laid("b5,1,0,0;b9,1,0,1;b1,1,0,0;w6;r2,1;").due("river 0|2 0", 2, 0);
            laid(times(3, B) + "s2;").due("river 9999 0", 2);
        });
        // Everybody lands, so no run shows the 0.
        say("in which minute the last one of those who do LANDS (0: nobody does).", () -> {
            laid("b5,1,0,0;b9,1,0,1;w6;").due("river 0|2 1", 3);
            laid("b9,1,0,0;b1,1,2,30;b5,1,0,0;w99;").due("river 0|7|9999 1", 153);
            laid("b9,1,0,30;w1;").due("river 0 1", 31);
        });
        say("KEPT are STARTS, who RIDES on whom:", () -> {
            Run run = laid("b5,1,0,3;b4,1,0,0;b3,1,0,0;");
            run.due("start 0 9", 3).due("ride 1 2", NONE).due("seen 0 2", 1).due("keep", 1)
                    .due("start 0 8", 9).due("start 2 7", 0).due("leave 1", 2).due("ride 2 0", NONE)
                    .due("seen 0 1", 2).due("restore", 0).due("beast 0..2 3", 9, 0, 0)
                    .due("beast 0..2 4", NONE, 2, NONE).due("count 5", 2);
        });
        say("2 at most.", () ->
            fresh().due("keep", 1).due("keep", 2).due("keep", FULL).due("count 7", 2)
                    .due("restore", 1).due("keep", 2).due("keep", FULL));
    }

    /** In which minute one of 9 yards a stroke lands over a river by z. */
    static int minuteBy(int z, int width) {
        int far = 0;
        for (int m = 1; m <= 200; m++) {
            BigInteger x = BigInteger.valueOf(7919).multiply(BigInteger.valueOf(z))
                    .add(BigInteger.valueOf(6151).multiply(BigInteger.valueOf(m))).add(BigInteger.ONE);
            far += 9 - x.multiply(x).mod(BigInteger.valueOf(65521)).mod(BigInteger.valueOf(6)).intValue();
            if (far >= width) {
                return m;
            }
        }
        return 0;
    }

    // ---- answers below 0

    /** A run in which each call could be refused: letters, changes, one kept, two seen. */
    static Run rich() {
        return fresh().text("b7,7,1,7;w5").due("start 2 4", 0).due("ride 0 2", 1).due("keep", 1)
                .due("leave 0", 2).due("seen 0 1", 1).due("seen 5 4", 2).due("start 1 9", 2);
    }

    /** All that can be seen of an object, and at last what it has kept and can undo. */
    static List<Integer> trace(Run run) {
        List<Integer> out = new ArrayList<>();
        for (int k = 0; k <= 8; k++) out.add(run.ask("count", k));
        for (int m : new int[] {1, 7, 8, 200}) out.add(run.ask("current", m));
        for (int what = 0; what <= 6; what++) {
            for (int i = 0; i < 6; i++) out.add(run.ask("beast", i, what));
        }
        for (int k = 1; k <= 6; k++) {
            out.add(run.ask("who", k));
            out.add(run.ask("order", k));
            out.add(run.ask("harvest", k));
        }
        out.add(run.ask("rides", 0));
        out.add(run.ask("rides", 1));
        for (int k = 0; k <= UNDO; k++) {
            out.add(run.ask("undo"));
            changeable(run, out);
        }
        for (int k = 0; k <= 2; k++) {
            out.add(run.ask("restore"));
            changeable(run, out);
        }
        out.add(run.ask("fault"));
        out.add(run.ask("write", (int) ';'));
        out.add(run.ask("lay"));
        out.add(run.ask("beast", 0, 0));
        out.add(run.ask("count", 1));
        return out;
    }

    static void changeable(Run run, List<Integer> out) {
        for (int i = 0; i < 6; i++) {
            out.add(run.ask("beast", i, 3));
            out.add(run.ask("beast", i, 4));
        }
    }

    static void changesNothing(String call, int answer) {
        Run with = rich().due(call, answer);
        if (!trace(with).equals(trace(rich()))) {
            fail(call + " changes something");
        }
    }

    static final String NO_BEASTS = "-1|6|7|8|MIN|MAX|" + NONE;

    static void termsOfAnswers() {
        say("BAD: a number is none that is told (BEASTS: such as there are).", () -> {
            for (String call : new String[] {"beast @ 0", "where @ 1", "lands @", "rank @",
                "start @ 1", "ride @ 0", "ride 0 @", "leave @", "late @", "back @ 0",
                "odds @ 1 1 0", "seen @ 1"}) {
                fresh().due(call.replace("@", NO_BEASTS), BAD);
                // Of the laid beasts, not of those that a text tells or once told.
                Run fewer = laid(B + B);
                fewer.due(call.replace("@", "2|5"), BAD);
                fewer.text(times(8, B)).due(call.replace("@", "2|7"), BAD);
            }
            laid(B + B).due("bridge 2|-2", BAD).due("who 3", BAD).due("order 3", BAD)
                    .due("seen 0 3", BAD);
        });
        say("NO: not as things stand.", () -> {
            fresh().due("lay", NO).due("undo", NO).due("restore", NO).due("leave 1", NO)
                    .due("ride 1 0", NO).due("back 1 0", NO);
            // As they stand then, they can be.
            laid(B + B).due("undo", NO).due("start 0 1", 0).due("undo", 0).due("restore", NO)
                    .due("keep", 1).due("restore", 0).due("leave 0", NO).due("ride 0 1", NONE)
                    .due("back 1 0", NO).due("leave 0", 1).due("back 1 0", 0);
        });
        say("NONE: there is none.", () ->
            laid(B + B).due("fault", NONE).due("beast 0 4..5", NONE).due("calm 1", NONE)
                    .due("ride 1 0", NONE).due("seen 0 1", 1).due("seen 1 1", 2).due("rides 1", NONE));
        say("FULL.", () -> {
            fresh().text(times(200, "x")).due("write 120", FULL);
            fresh().due("seen 0|1|2|3|4|5 1", 1, 2, 3, 4, 5, 6).due("seen 0 1", FULL);
            fresh().due("keep", 1).due("keep", 2).due("keep", FULL);
        });
        say("Of several the first; nothing changes then.", () -> {
            fresh().text(times(200, "x")).due("write 31|127", BAD).due("write 32", FULL);
            fresh().due("seen 0|1|2|3|4|5 1", 1, 2, 3, 4, 5, 6).due("seen 6 1", BAD)
                    .due("seen 0 7", BAD).due("seen 0 6", FULL).due("count 5", 6);
            fresh().due("ride 3 3", BAD).due("ride 3 6", BAD).due("ride 1 6", BAD).due("ride 1 1", BAD)
                    .due("back 3 2", BAD).due("back 1 -1", BAD);
            String[] refused = {"write 31", "write 127", "write MIN", "beast 6 0", "beast 0 7",
                "current 0", "where 0 201", "lands 6", "rank -1", "who 7", "who 0", "start 0 31",
                "start 0 -1", "start 6 1", "ride 0 0", "ride 0 6", "ride 6 0", "leave 6", "late 6",
                "back 6 0", "back 0 2", "bridge 6", "bridge -2", "calm 2", "order 7", "order -1",
                "harvest 0", "harvest 100", "odds 0 6 1 0", "odds 0 1 11 0", "seen 0 7", "seen 6 1",
                "rides 2", "river 10000 0", "river 0 2", "count 9"};
            for (String call : refused) changesNothing(call, BAD);
            for (String call : new String[] {"lay", "leave 0", "ride 3 0", "back 3 0"}) {
                changesNothing(call, NO);
            }
            refusedWhenFull();
        });
    }

    /** Calls that only ask, on a rich run: what would be is told, not done. */
    static void askingChangesNothing() {
        section = "What is asked for";
        sentence = "changes nothing";
        String[] calls = {"fault", "beast 0..5 0..6", "current 1..9", "where 0..5 0..9", "lands 0..5",
            "rank 0..5", "who 1..6", "late 0..5", "back 0|2 0..1", "twos", "bridge -1..5",
            "calm 0..1", "order 0..6", "harvest 1..6", "odds 0..5 2 3 0..1", "rides 0..1",
            "river 0|9999 0..1", "count 0..8"};
        List<Integer> due = trace(rich());
        for (String call : calls) {
            String[] words = call.split(" ");
            List<Integer[]> ways = new ArrayList<>();
            choose(words, new Integer[words.length - 1], 0, ways);
            Run run = rich();
            for (Integer[] way : ways) run.ask(words[0], way);
            if (!trace(run).equals(due)) {
                fail(call);
            }
        }
    }

    static void refusedWhenFull() {
        Run[] runs = {rich(), rich()};
        for (Run run : runs) {
            run.due("seen 0|1|2|3 1", 3, 4, 5, 6).due("keep", 2).due("start 3 3", 0);
        }
        runs[0].due("seen 2 2", FULL).due("keep", FULL);
        if (!trace(runs[0]).equals(trace(runs[1]))) {
            fail("what is refused as full changes something");
        }
        Run full = fresh().text(B + times(61, "w1;") + "w12;w34;");
        full.due("write 59", FULL).due("write 59", FULL).due("fault", NONE).due("lay", 1)
                .due("count 1", 34).due("wipe", 200);
        // With nothing to undo or restore; a ride that is refused keeps the one that is.
        fresh().due("undo", NO).due("restore", NO).due("ride 1 2", NO).due("ride 0 3", 1)
                .due("ride 0 0", BAD).due("beast 0 4", 3).due("count 6", 1).due("undo", 0)
                .due("beast 0 4", 1);
    }

    // ---- the promises

    static void promisesOfRivers() {
        section("Promise 1: A new object");
        say("As told.", () -> {
            firstRiver(fresh());
            fresh().due("fault", NONE).due("wipe", 0).due("undo", NO).due("restore", NO)
                    .due("forget", 0).due("lands 0..5", 13, 13, 8, 18, 18, 18).due("twos", 1)
                    .due("bridge -1", 4).due("rides 0..1", 16, 1);
            // No object knows what is done with another one.
            Run one = fresh().due("start 0 9", 0).due("write 98", 1).due("keep", 1);
            firstRiver(fresh());
            one.due("count 6..8", 1, 1, 1);
        });

        section("Promise 2: write");
        say("A letter (32 to 126, as in ASCII) comes behind THE TEXT: how long it is.", () -> {
            fresh().due("write 32", 1).due("write 126", 2).due("write 98", 3).due("count 8", 3);
            // w, 1, 2, ; in this order, and behind it w.
            fresh().due("write 119|49|50|59", 1, 2, 3, 4).due("fault", NONE).due("write 119", 5)
                    .due("fault", 4);
            Run all = fresh();
            for (int letter = 32; letter <= 126; letter++) all.due("write " + letter, letter - 31);
        });
        say("BAD;", () ->
            fresh().due("write 98", 1).due("write 31|127|-1|0|128|255|256|354|MIN|MAX", BAD)
                    .due("count 8", 1).due("write 98", 2));
        say("FULL.", () ->
            fresh().text(times(199, "x")).due("write 120", 200).due("write 120", FULL)
                    .due("write 32", FULL).due("count 8", 200));

        section("Promise 3: wipe");
        say("THE TEXT is empty: how long it was.", () -> {
            fresh().due("wipe", 0).due("write 98|49", 1, 2).due("wipe", 2).due("count 8", 0)
                    .due("fault", NONE).due("wipe", 0).due("write 119", 1).due("fault", 0);
            fresh().text(times(200, "x")).due("wipe", 200).due("write 120", 1);
            // Of what was written ahead of it nothing is left.
            Run run = written("w12;w3;");
            run.text("w").due("fault", 0).text("w1").due("fault", 0).text("w12").due("fault", 0)
                    .text("w12;").due("fault", NONE);
            firstRiver(written(B).due("wipe", 9));
        });

        section("Promise 4: fault");
        say("FAULT.", () -> {
            written("x").due("fault", 0).due("fault", 0).due("count 8", 1);
            written(B + "x").due("fault", 9);
            written("w1;w2").due("fault", 3).due("write 59", 6).due("fault", NONE)
                    .due("write 59", 7).due("fault", 6);
        });
        say("NONE.", () -> {
            fresh().due("fault", NONE);
            written(B).due("fault", NONE).due("count 0", 6);
            // What cannot be laid may be without fault all the same.
            fine("w5;", B + B + "r0,1;r1,0;", times(3, B) + "a0,1,2;a0,1,2;",
                    times(3, B) + "a0,1,2;r0,1;");
        });

        section("Promise 5: lay");
        say("LAID: how many BEASTS;", () -> {
            for (int n = 1; n <= 8; n++) written(times(n, B)).due("lay", n).due("count 0", n);
            // The text stays, and can be laid again.
            written(B + B).due("lay", 2).due("count 8", 18).due("lay", 2).text(B).due("lay", 1);
            // Nothing of the river ahead of it is left.
            written(B + B).due("lay", 2).due("count 0..4", 2, 30, 0, 0, 0).due("current 1|8", 0)
                    .due("beast 0..1 4", NONE).due("beast 0..1 6", 0, 1).due("order 0", 0)
                    .due("harvest 2", 0);
            written(times(4, B)).due("lay", 4).due("beast 3 5", NONE);
            laid(times(6, B) + "a0,1,2;a3,4,5;s5;c0,5;v0,8;y0,9;w9;").text(times(6, B))
                    .due("lay", 6).due("beast 0..5 5", NONE).due("beast 0..5 6", 0, 1, 2, 3, 4, 5)
                    .due("count 1..3", 30, 0, 0).due("current 1", 0).due("order 0", 0)
                    .due("harvest 1", 0);
        });
        say("nothing SEEN, UNDONE, KEPT.", () ->
            written(times(3, B)).due("seen 5 6", 1).due("start 5 5", 0).due("ride 0 2", 1)
                    .due("keep", 1).due("keep", 2).due("lay", 3).due("count 5..7", 0)
                    .due("undo", NO).due("restore", NO).due("forget", 0).due("rides 0", 7)
                    .due("beast 0..2 3", 0).due("beast 0..2 4", NONE)
                    .due("keep", 1).due("start 0 1", 0).due("undo", 0));
        say("NO.", () -> {
            for (String text : new String[] {"", "w5;", "x", B + "x", B + "w0;", B + "w1",
                B + B + "r0,1;r1,0;", times(3, B) + "a0,1,2;r0,1;",
                times(4, B) + "a0,1,2;a1,2,3;"}) {
                firstRiver(written(text).due("lay", NO).due("wipe", text.length()));
            }
        });

        section("Promise 6: beast");
        String five = "b9,8,3,30;b1,2,1,7;b3,3,2,0;b4,4,0,1;b5,5,0,2;s3;s1;s3;r0,1;r0,2;a4,3,1;";
        say("Of a BEAST: S (what = 0),", () ->
            laid(five).due("beast 0..4 0", 9, 1, 3, 4, 5));
        say("weight (1),", () ->
            laid(five).due("beast 0..4 1", 8, 2, 3, 4, 5));
        say("KIND (2),", () ->
            laid(five).due("beast 0..4 2", 3, 1, 2, 0, 0));
        say("START (3),", () ->
            laid(five).due("beast 0..4 3", 30, 7, 0, 1, 2).due("start 1 9", 7)
                    .due("beast 0..4 3", 30, 9, 0, 1, 2));
        say("on whom it RIDES (4; NONE),", () ->
            laid(five).due("beast 0..4 4", 2, NONE, NONE, NONE, NONE).due("leave 0", 2)
                    .due("beast 0 4", NONE).due("ride 2 0", NONE).due("beast 2 4", 0));
        say("in which RAFT it is (5; NONE),", () -> {
            laid(five).due("beast 0..4 5", NONE, 0, NONE, 0, 0);
            laid(times(7, B) + "a0,2,4;a5,3,1;").due("beast 0..6 5", 0, 1, 0, 1, 0, 1, NONE);
        });
        say("how many SPEAK ahead of it (6).", () ->
            laid(five).due("beast 0..4 6", 2, 1, 3, 0, 4));
        say("BAD.", () ->
            laid(five).due("beast -1|5|8|MIN|MAX 0|6", BAD).due("beast 0|4 -1|7|MIN|MAX", BAD)
                    .due("beast 5 7", BAD));

        section("Promise 7: current");
        say("What the CURRENT takes in minute m (1 to 200).", () -> {
            laid(B + "c0,2;c99,4;").due("current 1", 2)
                    .due("current 98..100", 2, 4, 4).due("current 200", 4);
            // Whoever is helped or light.
            laid("b5,1,1,0;b5,1,2,0;c0,3;").due("current 1..11", 3);
        });
        say("BAD.", () -> fresh().due("current 0|201|-1|MIN|MAX", BAD));

        section("Promise 8: where");
        say("How far a BEAST is behind minute m (0 to 200),", () ->
            laid("b5,1,0,1;b1,1,0,0;w99;c0,2;").due("where 0 0..4", 0, 0, 3, 6, 9)
                    .due("where 1 0|1|98|99|200", 0, 1, 98, 99, 99));
        say("as far as the river is wide at most.", () -> {
            laid("b9,1,0,0;w10;").due("where 0 0..3", 0, 9, 10, 10).due("where 0 200", 10);
            laid("b9,1,0,0;w1;").due("where 0 0..2", 0, 1, 1);
            laid("b9,1,0,0;b9,1,0,0;r1,0;w10;").due("where 1 2", 10);
            laid("b9,1,0,0;b9,1,0,0;b9,1,0,0;a0,1,2;w10;").due("where 2 2", 10);
        });
        say("BAD.", () ->
            laid(B + B).due("where 0 -1|201|MIN|MAX", BAD).due("where -1|2|MIN|MAX 0|200", BAD));

        section("Promise 9: lands");
        say("In which minute a BEAST LANDS.", () -> {
            laid("b5,1,0,1;b1,1,0,0;b9,1,0,30;w10;").due("lands 0..2", 3, 10, 32);
            laid("b9,1,0,0;w1;").due("lands 0", 1);
        });
        // See "Strokes are made by 200 minutes": the slowest lands.
        say("NONE;", () -> laid("b1,1,2,30;w99;c0,5;").due("lands 0", 153));
        say("BAD.", () -> laid(B + B).due("lands -1|2|8|MIN|MAX", BAD));

        section("Promise 10: rank");
        say("RANK of a BEAST.", () -> {
            fresh().due("rank 0..5", 2, 3, 1, 5, 6, 4);
            laid(B).due("rank 0", 1);
            laid("b1,1,0,0;b2,1,0,0;b3,1,0,0;b4,1,0,0;b5,1,0,0;b6,1,0,0;b7,1,0,0;b8,1,0,0;w99;")
                    .due("rank 0..7", 8, 7, 6, 5, 4, 3, 2, 1);
        });
        say("BAD.", () -> laid(B + B).due("rank -1|2|8|MIN|MAX", BAD));

        section("Promise 11: who");
        say("Who has a RANK (1 to as many as there are BEASTS).", () -> {
            fresh().due("who 1..6", 2, 0, 1, 5, 3, 4);
            laid(B).due("who 1", 0);
            laid("b1,1,0,0;b2,1,0,0;b3,1,0,0;b4,1,0,0;b5,1,0,0;b6,1,0,0;b7,1,0,0;b8,1,0,0;w99;")
                    .due("who 1..8", 7, 6, 5, 4, 3, 2, 1, 0);
        });
        say("BAD.", () -> {
            laid(B + B).due("who -1|0|3|8|MIN|MAX", BAD);
            laid(times(8, B)).due("who 0|9", BAD);
        });
    }

    static void promisesOfChanges() {
        section("Promise 12: start");
        say("A START is changed: what it was.", () ->
            laid("b5,1,0,3;b4,1,0,0;w10;").due("start 0 0", 3).due("beast 0..1 3", 0)
                    .due("lands 0", 2).due("start 0 30", 0).due("lands 0", 32)
                    .due("start 0 30", 30).due("count 6", 3).due("start 1 1", 0)
                    .due("beast 0..1 3", 30, 1));
        say("BAD.", () ->
            laid("b5,1,0,3;b4,1,0,0;").due("start 0 -1|31|MIN|MAX", BAD)
                    .due("start -1|2|MIN|MAX 0|30", BAD).due("beast 0..1 3", 3, 0)
                    .due("count 6", 0));

        String six = times(6, "b5,1,0,0;") + "a3,4,5;";
        section("Promise 13: ride");
        say("A BEAST RIDES on another one (instead):", () ->
            laid(six).due("ride 0 1", NONE).due("beast 0 4", 1).due("ride 0 2", 1)
                    .due("beast 0 4", 2).due("count 4", 1).due("ride 1 2", NONE).due("count 4", 2)
                    // On one of a raft; on the same one again.
                    .due("ride 0 4", 2).due("ride 0 4", 4).due("count 4", 2).due("count 6", 5));
        say("on whom it did (NONE: nobody).", () ->
            laid(six).due("ride 2 0", NONE).due("ride 2 1", 0).due("ride 2 0", 1).due("leave 2", 0)
                    .due("ride 2 1", NONE));
        say("BAD (itself, too);", () ->
            laid(six).due("ride 0..5 -1|6|8|MIN|MAX", BAD).due("ride -1|6|8|MIN|MAX 0", BAD)
                    .due("ride 0 0", BAD).due("ride 3 3", BAD).due("ride 0 " + NONE, BAD)
                    .due("count 4", 0).due("count 6", 0));
        say("NO: it would not be LAID so.", () ->
            laid(six).due("ride 0 1", NONE)
                    // On one who rides; one who is ridden; both at once; one in a raft.
                    .due("ride 2 0", NO).due("ride 1 2", NO).due("ride 1 0", NO).due("ride 3 2", NO)
                    .due("ride 3 4", NO).due("ride 5 0", NO).due("beast 0..5 4", 1, NONE, NONE,
                            NONE, NONE, NONE)
                    .due("count 6", 1).due("leave 0", 1).due("ride 1 2", NONE).due("ride 0 1", NO)
                    .due("ride 0 2", NONE));

        section("Promise 14: leave");
        say("A BEAST RIDES no more: on whom it did.", () -> {
            fresh().due("leave 0", 1).due("beast 0 4", NONE).due("count 4", 0).due("count 6", 1);
            laid(six + "r0,5;r1,5;").due("leave 1", 5).due("beast 0..1 4", 5, NONE)
                    .due("leave 0", 5).due("count 4", 0);
        });
        say("BAD;", () -> fresh().due("leave -1|6|8|MIN|MAX", BAD).due("count 4", 1));
        say("NO: it does not.", () ->
            fresh().due("leave 1..5", NO).due("leave 0", 1).due("leave 0", NO).due("count 6", 1));

        section("Promise 15: undo");
        say("UNDONE: how many more can be.", () -> {
            fresh().due("leave 0", 1).due("undo", 0).due("beast 0 4", 1);
            fresh().due("start 0 5", 0).due("start 1 6", 2).due("ride 0 2", 1).due("undo", 2)
                    .due("beast 0 4", 1).due("count 6", 2).due("undo", 1).due("beast 1 3", 2)
                    .due("beast 0 3", 5).due("undo", 0).due("beast 0 3", 0);
            // Also one that changed nothing.
            fresh().due("start 0 5", 0).due("start 0 5", 5).due("undo", 1).due("beast 0 3", 5)
                    .due("undo", 0).due("beast 0 3", 0);
        });
        say("NO.", () ->
            fresh().due("undo", NO).due("start 0 31", BAD).due("undo", NO).due("ride 1 2", NO)
                    .due("undo", NO).due("start 0 1", 0).due("undo", 0).due("undo", NO));
    }

    static void promisesOfWhatWouldBe() {
        section("Promise 16: late");
        say("LATE.", () -> {
            fresh().due("late 0..5", 30, 5, 2, 30, 30, 30).due("beast 0..5 3", 0, 2, 0, 0, 1, 0)
                    .due("count 6", 0);
            laid(B).due("late 0", 30);
        });
        say("BAD.", () -> laid(B + B).due("late -1|2|8|MIN|MAX", BAD));

        section("Promise 17: back");
        say("BACK: on whom (what = 0; NONE: on nobody), the RANK (1).", () ->
            fresh().due("back 0 0..1", 2, 1).due("back 2 0..1", NONE, 1).due("beast 0|2 4", 1, NONE)
                    .due("count 6", 0));
        say("BAD;", () ->
            fresh().due("back -1|6|8|MIN|MAX 0|1", BAD).due("back 0|1|3 -1|2|MIN|MAX", BAD));
        say("NO: somebody RIDES on it, it is in a RAFT.", () ->
            fresh().due("back 1 0..1", NO).due("back 3..5 0..1", NO).due("leave 0", 1)
                    .due("back 1 0..1", 2, 1));

        section("Promise 18: twos");
        say("TWOS.", () -> {
            fresh().due("twos", 1).due("leave 0", 1).due("twos", 1).due("ride 2 0", NONE)
                    .due("twos", 1);
            laid(B + B).due("twos", 0);
        });

        section("Promise 19: bridge");
        say("BRIDGE: who, as bits (i = -1),", () -> {
            fresh().due("bridge -1", 4).due("ride 0 2", 1).due("bridge -1", 1).due("count 1", 40);
            laid("b1,1,0,0;b5,1,0,0;b9,1,0,0;").due("bridge -1", 7);
        });
        say("over how many widths a BEAST is first.", () -> {
            fresh().due("bridge 0..5", 0, 0, 99, 0, 0, 0);
            // Over 1 yard all are alike, over 2 to 5 and 10 yards the two others.
            laid("b1,1,0,0;b5,1,0,0;b9,1,0,0;").due("bridge 0..2", 1, 5, 93);
        });
        say("BAD.", () -> laid(B + B).due("bridge -2|2|8|MIN|MAX", BAD));
    }

    static void promisesOfRanks() {
        String three = "b9,1,0,0;b5,1,0,0;b2,1,0,0;";
        section("Promise 20: calm");
        say("CALM: how many (what = 0),", () -> {
            fresh().due("calm 0", 0);
            laid(three + "v0,3;v1,1;v2,1;").due("calm 0", 2).due("start 0 30", 0)
                    .due("who 1..3", 1, 2, 0).due("calm 0", 0);
        });
        say("the first (1; NONE).", () -> {
            fresh().due("calm 1", NONE);
            laid(three + "v0,3;v1,1;v2,1;").due("calm 1", 1);
        });
        say("BAD.", () -> fresh().due("calm -1|2|MIN|MAX", BAD));

        section("Promise 21: order");
        say("ORDER: how many off (rank = 0),", () -> {
            fresh().due("order 0", 1).text(B).due("lay", 1).due("order 0..1", 0, 0);
            laid(three).due("order 0", 0);
            laid(three + "v0,8;v1,8;v2,8;").due("order 0", 5 + 6 + 7);
        });
        say("who has a RANK.", () -> {
            fresh().due("order 1..6", 0, 2, 1, 3, 4, 5);
            laid(three + "v0,3;").due("order 1..3", 1, 2, 0);
            laid(B).due("order 1", 0);
        });
        say("BAD.", () -> {
            laid(B + B).due("order -1|3|8|MIN|MAX", BAD);
            laid(times(8, B)).due("order 8", 7).due("order 9", BAD);
        });

        section("Promise 22: harvest");
        say("HARVEST.", () ->
            fresh().due("harvest 1|3|7|99", 7, 49, 56, 16 * 49 + 49));
        say("BAD.", () -> fresh().due("harvest 0|100|-1|MIN|MAX", BAD));
    }

    static void promisesOfFloods() {
        section("Promise 23: odds");
        say("ODDS: above (part = 0), below (1).", () -> {
            fresh().due("odds 2 0 5 0..1", 1, 1).due("odds 0 5 3 0..1", 0, 1);
            laid("b3,1,0,0;b6,1,0,1;w6;").due("odds 0 1 3 0..1", 7, 10)
                    .due("odds 1 1 3 0..1", 3, 10).due("lands 0..1", 2);
        });
        say("BAD.", () ->
            fresh().due("odds -1|6|MIN|MAX 0 0 0", BAD).due("odds 0 -1|6|MIN|MAX 0 0", BAD)
                    .due("odds 0 5 -1|11|MIN|MAX 0", BAD).due("odds 0 5 5 -1|2|MIN|MAX", BAD));

        section("Promise 24: seen");
        say("SEEN: how many.", () ->
            fresh().due("seen 0 1", 1).due("seen 5 6", 2).due("count 5", 2));
        say("BAD;", () ->
            fresh().due("seen -1|6|8|MIN|MAX 1", BAD).due("seen 0 -1|0|7|8|9|MIN|MAX", BAD)
                    .due("count 5", 0));
        say("FULL.", () ->
            fresh().due("seen 0..5 1", 1, 2, 3, 4, 5, 6).due("seen 0 2", FULL).due("count 5", 6)
                    .due("rides 0", 0));

        section("Promise 25: forget");
        say("Nothing is SEEN: how many were.", () ->
            fresh().due("forget", 0).due("seen 0 1", 1).due("seen 0 2", 2).due("rides 0", 0)
                    .due("forget", 2).due("count 5", 0).due("rides 0", 16).due("forget", 0)
                    .due("seen 0 1", 1).due("rides 0", 2));

        section("Promise 26: rides");
        say("RIDES: how many (what = 0),", () ->
            fresh().due("rides 0", 16).due("seen 0 1", 1).due("rides 0", 2).due("beast 0 4", 1));
        say("the first (1; NONE).", () ->
            fresh().due("rides 1", 1).due("seen 0 1", 1).due("rides 1", 2).due("seen 0 2", 2)
                    .due("rides 1", NONE));
        say("BAD.", () -> fresh().due("rides -1|2|MIN|MAX", BAD));

        section("Promise 27: river");
        say("A RIVER: who is first (what = 0),", () ->
            laid("b5,1,0,0;b9,1,0,1;w6;c0,4;").due("river 0|2 0", 1, 0).due("current 1", 4));
        say("the minute (1).", () -> {
            laid("b5,1,0,0;w3;").due("river 0 1", 2).due("lands 0", 1);
            laid("b9,1,0,0;w7;").due("river 9999 1", 1);
            laid("b9,1,0,0;w8;").due("river 9999 1", 2);
        });
        say("BAD.", () ->
            fresh().due("river -1|10000|MIN|MAX 0|1", BAD).due("river 0|9999 -1|2|MIN|MAX", BAD));
    }

    static void promisesOfKept() {
        section("Promise 28: keep");
        say("KEPT: how many.", () ->
            fresh().due("keep", 1).due("start 0 4", 0).due("keep", 2).due("count 7", 2)
                    .due("count 6", 1).due("restore", 1).due("beast 0 3", 4).due("restore", 0)
                    .due("beast 0 3", 0));
        say("FULL.", () ->
            fresh().due("start 0 4", 0).due("keep", 1).due("start 0 5", 4).due("keep", 2)
                    .due("start 0 6", 5).due("keep", FULL).due("count 7", 2).due("restore", 1)
                    .due("beast 0 3", 5).due("restore", 0).due("beast 0 3", 4));

        section("Promise 29: restore");
        say("As KEPT last: how many are left;", () ->
            fresh().due("start 5 9", 0).due("ride 0 2", 1).due("keep", 1).due("leave 0", 2)
                    .due("start 5 8", 9).due("keep", 2).due("ride 2 0", NONE).due("start 4 7", 1)
                    .due("restore", 1).due("beast 0..5 3", 0, 2, 0, 0, 1, 8).due("beast 0|2 4", NONE)
                    .due("restore", 0).due("beast 0..5 3", 0, 2, 0, 0, 1, 9)
                    .due("beast 0|2 4", 2, NONE).due("count 7", 0));
        say("nothing is UNDONE then.", () ->
            fresh().due("start 0 1", 0).due("keep", 1).due("start 0 2", 1).due("restore", 0)
                    .due("count 6", 0).due("undo", NO).due("beast 0 3", 1).due("start 0 3", 1)
                    .due("undo", 0).due("beast 0 3", 1));
        say("NO.", () ->
            fresh().due("start 0 4", 0).due("restore", NO).due("beast 0 3", 4).due("count 6", 1)
                    .due("keep", 1).due("restore", 0).due("restore", NO));

        section("Promise 30: count");
        String four = times(4, B) + "a0,1,2;w7;c1,1;c1,1;c2,0;r3,0;";
        say("How many: 0 BEASTS,", () -> {
            fresh().due("count 0", 6);
            laid(four).due("count 0", 4);
        });
        say("1 yards the river is wide,", () -> laid(four).due("count 1", 7));
        say("2 CURRENTS,", () -> {
            laid(four).due("count 2", 3);
            laid(B).due("count 2", 0);
        });
        say("3 RAFTS,", () -> {
            laid(four).due("count 3", 1);
            laid(times(6, B) + "a0,1,2;a3,4,5;").due("count 3", 2);
            laid(B).due("count 3", 0);
        });
        say("4 that RIDE,", () ->
            laid(four).due("count 4", 1).due("leave 3", 0).due("count 4", 0).due("undo", 0)
                    .due("count 4", 1));
        say("5 SEEN,", () ->
            fresh().due("count 5", 0).due("seen 0 1", 1).due("seen 0 1", 2).due("count 5", 2));
        say("6 that can be UNDONE,", () ->
            fresh().due("count 6", 0).due("start 0 1", 0).due("leave 0", 1).due("count 6", 2)
                    .due("undo", 1).due("count 6", 1));
        say("7 KEPT,", () ->
            fresh().due("count 7", 0).due("keep", 1).due("count 7", 1).due("restore", 0)
                    .due("count 7", 0));
        say("8 letters of THE TEXT.", () ->
            laid(four).due("count 8", four.length()).due("write 59", four.length() + 1)
                    .due("count 8", four.length() + 1).due("wipe", four.length() + 1)
                    .due("count 8", 0));
        say("BAD.", () -> fresh().due("count -1|9|MIN|MAX", BAD));
    }

    // ---- the document as a whole

    /** What the document says in a section, without its marks and the form of the call. */
    static String words(String document, String title) {
        int at = document.indexOf("\n## " + title + "\n");
        if (at < 0) {
            return "";
        }
        int from = at + title.length() + 5;
        int to = document.indexOf("\n## ", from);
        String text = document.substring(from, to < 0 ? document.length() : to);
        if (title.equals("What it is")) {
            // A summary stands ahead of the text's rules.
            text = text.substring(text.indexOf("========"));
        }
        return text.replaceAll("```(text)?", " ").replaceAll("======== \\d+", " ")
                .replaceAll("Ahead of the calls [^\n]*", " ").replaceAll("`[^`]*`:", " ")
                .replaceAll("\\s+", " ").trim();
    }

    static void sentencesAreTheDocument() throws IOException {
        String document = Files.readString(DOCUMENT);
        for (Map.Entry<String, StringBuilder> one : said.entrySet()) {
            section = one.getKey();
            sentence = "the whole section";
            String due = words(document, section);
            if (!due.contentEquals(one.getValue())) {
                fail("the document says\n" + due + "\nand the tests\n" + one.getValue());
            }
        }
        for (String line : document.split("\n")) {
            if (line.startsWith("## Promise ") && !said.containsKey(line.substring(3))) {
                fail(line + " has no test");
            }
        }
    }

    public static void main(String[] args) throws IOException {
        theText();
        termsOfRivers();
        termsOfStrokes();
        termsOfRanks();
        termsOfWhatWouldBe();
        termsOfWants();
        termsOfFloods();
        termsOfAnswers();
        promisesOfRivers();
        promisesOfChanges();
        promisesOfWhatWouldBe();
        promisesOfRanks();
        promisesOfFloods();
        promisesOfKept();
        sentencesAreTheDocument();
        askingChangesNothing();
        System.out.println(sentences + " sentences, " + (wrong == 0 ? "all answers are as due"
                : wrong + " answers are not as due"));
        if (wrong != 0) {
            System.exit(1);
        }
    }
}
