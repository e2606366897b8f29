/** Terms 2 and promises 9 to 11: programs and words at their edges. */
final class ProgramEdges extends Edges {
    // ---- terms

    @Says("PROGRAMS 0 .. 3:")
    static void fourProgramsStandEachForItself() {
        AnyLength x = new AnyLength();
        for (int q = 0; q < 4; q++) x.end(q, 0, 1 + q % 2);
        for (int q = 0; q < 4; q++) {
            x.clear();
            due("run(" + q + ")", x.run(q), 1);
            due("what " + q + " writes", x.at(0), q % 2);
        }
        due("program 4", x.run(4), UNKNOWN);
        due("program -1", x.run(-1), UNKNOWN);
    }

    @Says({"six SPOTS 0 .. 5 each; for each SPOT and LETTER the next SPOT,",
        "and what is written (a WORD: no LETTER, one, or two);"})
    static void eachSpotAndLetterHasItsNextSpotAndWord() {
        AnyLength x = ofLetters(4);
        for (int i = 0; i < 96; i++) x.spot(i / 24, i / 4 % 6, i % 4, (i * 5 + i / 6) % 6, (i * 11 + i / 24) % 21);
        for (int i = 0; i < 96; i++) {
            due("next spot " + i, x.of(i / 24, i / 4 % 6, i % 4, 0), (i * 5 + i / 6) % 6);
            due("word " + i, x.of(i / 24, i / 4 % 6, i % 4, 1), (i * 11 + i / 24) % 21);
        }
    }

    @Says("for each SPOT what is written at the end (a WORD),")
    static void eachSpotHasItsEnd() {
        AnyLength x = ofLetters(4);
        for (int i = 0; i < 24; i++) x.end(i / 6, i % 6, i % 22 - 1);
        for (int i = 0; i < 24; i++) due("end " + i, x.of(i / 6, i % 6, 4, 1), i % 22 - 1);
    }

    @Says("or it STOPS there: the PROGRAM writes no ROW.")
    static void whereItStopsNoRowIsWritten() {
        AnyLength x = new AnyLength();
        x.spot(0, 0, 1, 5, 2);
        x.end(0, 5, STOPS);
        tell(x, 0, 1);
        due("it ends where it stops", x.run(0), STATE);
        tell(x, 1, 0);
        due("it only comes by", x.run(0), 2);
        dueRow("it only comes by", x, 1, 0);
        due("no row: the claim is not true", x.claim(0, 0, -1, 0), 0);
    }

    @Says("(At first: always SPOT 0, the LETTER itself, and nothing at the end.)")
    static void atFirstARowIsWrittenAsItIs() {
        for (int k = 2; k <= 4; k++) {
            AnyLength x = ofLetters(k);
            tell(x, k - 1, 0, k - 1, 1);
            for (int q = 0; q < 4; q++) due("run(" + q + ")", x.run(q), 4);
            dueRow("of " + k, x, k - 1, 0, k - 1, 1);
            for (int i = 0; i < 24; i++) {
                due("end " + i, x.of(i / 6, i % 6, k, 1), 0);
                due("next spot " + i, x.of(i / 6, i % 6, k - 1, 0), 0);
                due("word " + i, x.of(i / 6, i % 6, k - 1, 1), k);
            }
        }
    }

    @Says("WORDS are told as numbers: 0 no LETTER; 1 + x: x; 5 + 4 x + y: x, then y.")
    static void wordsAreToldAsNumbers() {
        AnyLength x = ofLetters(4);
        for (int word = 0; word <= 20; word++) {
            x.end(0, 0, word);
            x.clear();
            due("word " + word, x.run(0), word == 0 ? 0 : word < 5 ? 1 : 2);
            if (word >= 5) dueRow("word " + word, x, (word - 5) / 4, (word - 5) % 4);
            else if (word >= 1) dueRow("word " + word, x, word - 1);
            else dueRow("word 0", x);
        }
    }

    @Says("WORDS are told as numbers: 0 no LETTER; 1 + x: x; 5 + 4 x + y: x, then y.")
    static void wordsAreToldAlikeWhateverTheLetters() {
        for (int k = 2; k <= 4; k++) {
            AnyLength x = ofLetters(k);
            x.end(0, 0, 5 + 4 * (k - 1));
            due("of " + k, x.run(0), 2);
            dueRow("of " + k, x, k - 1, 0);
        }
    }

    @Says({"A PROGRAM reads a ROW from SPOT 0 on;",
        "what is written, one behind the other, and the end, is the ROW that it writes."})
    static void whatIsWrittenStandsOneBehindTheOther() {
        AnyLength x = new AnyLength();
        x.spot(0, 0, 0, 1, 6);
        x.spot(0, 1, 1, 2, 0);
        x.spot(0, 2, 0, 2, 2);
        x.end(0, 0, 5);
        x.end(0, 2, 9);
        tell(x, 0, 1, 0);
        due("run", x.run(0), 5);
        dueRow("01, none, 1, 10", x, 0, 1, 1, 1, 0);
        x.clear();
        due("of no letter the end alone", x.run(0), 2);
        dueRow("of no letter the end alone", x, 0, 0);
    }

    // ---- promise 9

    @Says(promise = 9, value = "The next SPOT for a LETTER, and the WORD that is written: which WORD it was.")
    static void spotTellsWhichWordItWas() {
        AnyLength x = ofLetters(4);
        due("the letter itself at first", x.spot(3, 5, 3, 5, 20), 4);
        due("the longest word", x.spot(3, 5, 3, 0, 0), 20);
        due("no letter", x.spot(3, 5, 3, 0, 1), 0);
        due("the next spot", x.of(3, 5, 3, 0), 0);
        due("another letter", x.spot(3, 5, 2, 0, 1), 3);
        due("another spot", x.spot(3, 4, 3, 0, 1), 4);
        due("another program", x.spot(2, 5, 3, 0, 1), 4);
    }

    @Says(promise = 9, value = "UNKNOWN;")
    static void spotRefusesWhatIsNotThere() {
        refusesBeyond(UNKNOWN, "spot", given(3, 5, 2, 5, 1), range(0, 3), range(0, 5), range(0, 2), range(0, 5), fixed());
    }

    @Says(promise = 9, value = "BAD: word.")
    static void spotRefusesWordsThatAreNone() {
        refusesBeyond(BAD, "spot", given(3, 5, 2, 5, 1), fixed(), fixed(), fixed(), fixed(), range(0, 3));
        for (int word : new int[] {4, 8, 12, 16, 17, 18, 19, 20, 21, 22, -2}) refused(BAD, "spot", 0, 0, 0, 0, word);
        for (int word : new int[] {0, 3, 5, 7, 9, 11, 13, 15}) taken("spot", 0, 0, 0, 0, word);
    }

    @Says(promise = 9, value = "BAD: word.")
    static void spotNeverStops() {
        refused(BAD, "spot", 0, 0, 0, 0, STOPS);
    }

    @Says(promise = 9, value = "BAD: word.")
    static void aWordHasNoLetterThatIsNotThere() {
        for (int k = 2; k <= 4; k++) {
            for (int word = -2; word <= 22; word++) {
                boolean one = word >= 1 && word <= k;
                boolean two = word >= 5 && word < 21 && (word - 5) / 4 < k && (word - 5) % 4 < k;
                boolean isWord = word == 0 || one || two;
                due("of " + k + ": spot, word " + word, ofLetters(k).spot(0, 0, 0, 0, word), isWord ? 1 : BAD);
                due("of " + k + ": end, word " + word, ofLetters(k).end(0, 0, word), isWord || word == STOPS ? 0 : BAD);
            }
        }
    }

    // ---- promise 10

    @Says(promise = 10, value = "The WORD at the end in a SPOT (-1: it STOPS): which it was.")
    static void endTellsWhichItWas() {
        AnyLength x = ofLetters(4);
        due("nothing at first", x.end(3, 5, 20), 0);
        due("the longest word", x.end(3, 5, STOPS), 20);
        due("it stopped", x.end(3, 5, STOPS), STOPS);
        due("it stopped still", x.end(3, 5, 0), STOPS);
        due("it does not stop", x.of(3, 5, 4, 1), 0);
        due("another spot", x.end(3, 4, 1), 0);
        due("another program", x.end(2, 5, 1), 0);
    }

    @Says(promise = 10, value = "UNKNOWN;")
    static void endRefusesWhatIsNotThere() {
        refusesBeyond(UNKNOWN, "end", given(3, 5, 1), range(0, 3), range(0, 5), fixed());
    }

    @Says(promise = 10, value = "BAD.")
    static void endRefusesWordsThatAreNone() {
        refusesBeyond(BAD, "end", given(3, 5, 1), fixed(), fixed(), range(-1, 3));
        for (int word : new int[] {-2, 4, 8, 12, 16, 20, 21, 22}) refused(BAD, "end", 0, 1, word);
    }

    // ---- promise 11

    @Says(promise = 11, value = {"The next SPOT (what = 0),", "the WORD (1) for a LETTER;"})
    static void ofTellsTheNextSpotAndTheWord() {
        for (int k = 2; k <= 4; k++) {
            AnyLength x = ofLetters(k);
            x.spot(3, 5, 0, 4, 0);
            x.spot(3, 5, k - 1, 5, 6);
            due("letter 0", x.of(3, 5, 0, 0), 4);
            due("word of letter 0", x.of(3, 5, 0, 1), 0);
            due("letter k - 1", x.of(3, 5, k - 1, 0), 5);
            due("word of letter k - 1", x.of(3, 5, k - 1, 1), 6);
        }
    }

    @Says(promise = 11, value = "the end (letter = k, what = 1).")
    static void ofTellsTheEnd() {
        for (int k = 2; k <= 4; k++) {
            AnyLength x = ofLetters(k);
            x.end(3, 5, 6);
            due("of " + k, x.of(3, 5, k, 1), 6);
            x.end(3, 5, STOPS);
            due("of " + k + ": it stops", x.of(3, 5, k, 1), STOPS);
            due("of " + k + ": the end has no next spot", x.of(3, 5, k, 0), BAD);
        }
    }

    @Says(promise = 11, value = "UNKNOWN;")
    static void ofRefusesWhatIsNotThere() {
        refusesBeyond(UNKNOWN, "of", given(3, 5, 2, 1), range(0, 3), range(0, 5), range(0, 3), fixed());
        for (int what : new int[] {0, 1}) refused(UNKNOWN, "of", 3, 5, 4, what);
    }

    @Says(promise = 11, value = "BAD.")
    static void ofRefusesOtherQuestions() {
        refusesBeyond(BAD, "of", given(3, 5, 2, 1), fixed(), fixed(), fixed(), range(0, 1));
        for (int what : new int[] {-1, 0, 2, 3}) refused(BAD, "of", 3, 5, 3, what);
    }
}
