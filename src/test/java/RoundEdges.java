/** Edges of SHIFT, PASSES, HEARS, MID, of a ROUND from (a) to (g), of ACTS, of THE LOG and of what is undone. */
final class RoundEdges {
    static void play() {
        shifts();
        mids();
        sending();
        calling();
        joining();
        judging();
        acknowledging();
        outvoting();
        correcting();
        running();
        rounds();
        acts();
        power();
        log();
        undone();
        image();
    }

    private static void edge(String sentence, String rows) {
        Edges.edge(sentence, rows);
    }

    private static void shifts() {
        edge("SHIFT: its CLOCK and HELD UP, and N of its FAULT more, if that is TORN and the other one's number is odd", """
            cluster 'node ahead 10 torn 7;node behind 5 torn 9;{6;node late 3}'
            law 'late 20 if node<1' = 1
            shift 0 1 = 37
            shift 0 2 = 30
            shift 0 6 = 30
            shift 0 7 = 37
            shift 1 0 = -5
            shift 1 2 = -5
            shift 1 3 = 4
            shift 2 0 = 3
            shift 2 3 = 3
            """);
        edge("SHIFT is not kept within the numbers of CLOCK", """
            cluster 'node ahead 999 late 99;node ahead 999 torn 99;node behind 999;node'
            shift 0 1 = 1098
            shift 1 3 = 1098
            shift 1 2 = 999
            shift 2 0 = -999
            """);
        edge("shift: IndexOutOfBoundsException: there is no such NODE; IllegalArgumentException: both are one", """
            cluster 'node;node'
            shift 0 2 ! Index
            shift 2 0 ! Index
            shift 0 -1 ! Index
            shift -1 0 ! Index
            shift 2 2 ! Index
            shift 0 0 ! Argument
            shift 1 1 ! Argument
            """);
        edge("PASSES: an ACTIVE NODE whose CLOCK is from 0 less WINDOW to WINDOW", """
            cluster 'node ahead 100 active;node ahead 101 active;node behind 100 active;node behind 101 active;node;node off'
            each 14 = 1 0 1 0 0 0
            tune false 101 = 100
            each 14 = 1 1 1 1 0 0
            tune false 99 = 101
            each 14 = 0 0 0 0 0 0
            """);
        edge("PASSES: CLOCK and HELD UP together", """
            cluster 'node ahead 90 late 10 active;node ahead 90 late 11 active;node behind 110 late 10 active'
            cluster 'node behind 111 late 10 active;node ahead 100 torn 50 active;node ahead 100 active'
            law 'late 1 if node>4' = 1
            each 14 = 1 0 1 0 1 0
            """);
        edge("PASSES: not SILENT (one that is FLAKY may)", """
            cluster 'node silent active;node flaky 100 active;node active;node active'
            rounds 1 = 0
            each 14 = 0 1 1 1
            """);
        edge("HEARS by SHIFT and CLOCK alone, whatever the FAULT and the STATE", """
            cluster 'node silent;node off;node flaky 100 active'
            hears 1 0 = true
            hears 0 1 = true
            hears 0 2 = true
            """);
        edge("HEARS: SHIFT of that one, less its own CLOCK, is from 0 less PRECISION to PRECISION", """
            cluster 'node;node ahead 50;node ahead 51;node behind 50;node behind 51'
            hears 0 1 = true
            hears 0 2 = false
            hears 0 3 = true
            hears 0 4 = false
            hears 1 0 = true
            hears 2 0 = false
            hears 3 0 = true
            hears 4 0 = false
            """);
        edge("HEARS by SHIFT: one may hear the other one, and not be heard", """
            cluster 'node late 1;node ahead 50;node behind 50;node ahead 20 torn 80;node behind 29 off;node ahead 50'
            hears 1 0 = true
            hears 0 1 = true
            hears 2 0 = false
            hears 0 2 = true
            hears 5 3 = true
            hears 1 3 = true
            hears 4 3 = true
            hears 3 4 = true
            tune true 49 = 50
            hears 1 3 = false
            hears 4 3 = true
            hears 3 4 = true
            hears 0 1 = false
            hears 1 0 = true
            """);
        edge("hears: IndexOutOfBoundsException: there is no such NODE; IllegalArgumentException: both are one", """
            cluster 'node;node'
            hears 0 2 ! Index
            hears 2 0 ! Index
            hears 0 -1 ! Index
            hears -1 0 ! Index
            hears -1 -1 ! Index
            hears 0 0 ! Argument
            hears 1 1 ! Argument
            """);
    }

    private static void mids() {
        edge("MID: 0 of no number; of one and two none is left out", """
            mid [] = 0
            mid [0] = -128
            mid [255] = 127
            mid [138 140] = 11
            mid [0 255] = 0
            mid [1 255] = 0
            mid [0 254] = -1
            """);
        edge("MID: rounded towards 0", """
            mid [128 125] = -1
            mid [128 131] = 1
            mid [127 128] = 0
            mid [129 128] = 0
            mid [131 132] = 3
            mid [125 124] = -3
            """);
        edge("MID: these in order, without the least and the greatest one of 3 to 7", """
            mid [255 0 130] = 2
            mid [130 255 0] = 2
            mid [128 128 0] = 0
            mid [140 255 0 128] = 6
            mid [255 129 0 140 128 128 131] = 6
            mid [0 1 128 128 128 250 255] = -2
            mid [0 3 128 128 128 255 255] = 1
            """);
        edge("MID: without the two least and the two greatest of 8 and more", """
            mid [0 255 255 0 130 137 131 132] = 5
            mid [0 1 138 128 128 148 254 255] = 10
            mid [0 1 138 128 128 128 148 254 255] = 10
            mid [0 1 138 15*148 254 255] = 15
            mid [20*129] = 1
            """);
        edge("mid: of each byte, 0 to 255, a number: 128 less; at most 20; IllegalArgumentException: there are more", """
            mid [20*0] = -128
            mid [21*128] ! Argument
            tape 0
            mid [400*128] ! Argument
            tape 0
            mid = 0
            """);
    }

    private static void sending() {
        edge("(a) DRAW modulo 100 is below its OMITS: it OMITS (38 is not below 38)", """
            cluster 'node flaky 38 active;node'
            rounds 1 = 0
            each 3 = 2 2
            row 0 = 0 1 2 0
            """);
        edge("(a) DRAW modulo 100 is below its OMITS: it OMITS (38 is below 39)", """
            cluster 'node flaky 39 active;node'
            rounds 1 = 0
            each 3 = 2 1
            each 6 = 0 0
            node 0 5 = 0
            """);
        edge("(a) DRAW modulo 100: the least, 0, is below 1", """
            cluster 'node flaky 1 active;node'
            seed 132 = 1
            rounds 1 = 0
            each 3 = 2 1
            """);
        edge("(a) DRAW modulo 100: nothing is below OMITS of 0", """
            cluster 'node active;node'
            seed 0 = 1
            rounds 1 = 0
            each 3 = 2 2
            """);
        edge("(a) DRAW modulo 100: the greatest, 99, is not below 99", """
            cluster 'node flaky 99 active;node'
            seed 194 = 1
            rounds 1 = 0
            each 3 = 2 2
            """);
        edge("(a) DRAW modulo 100: 99 is below 100", """
            cluster 'node flaky 100 active;node'
            seed 194 = 1
            rounds 1 = 0
            each 3 = 2 1
            """);
        edge("(a) each OLD one, by numbers: the first DRAW is 38, the second one 58", """
            cluster 'node flaky 39 active;node flaky 58 active;node'
            rounds 1 = 0
            each 6 = 1 1 0
            each 5 = 2 2 6
            row 0 = 0 2 2 1
            """);
        edge("(a) the DRAW always: of one that never OMITS, of one that is SILENT, of one that does not PASS", """
            cluster 'node active;node silent active;node ahead 999 active'
            rounds 1
            seed 5 = 662824084
            """);
        edge("(a) the DRAW of OLD ones alone", """
            cluster 'node;node off'
            rounds 2 = 0
            seed 1 = 1
            node 0 3 = 2
            rounds 1 = 0
            seed 1 = 1103527590
            """);
        edge("(a) no DRAW of one that is FROZEN, or has joined in this ROUND", """
            cluster 'node active;node active;node ahead 200 active;node'
            rounds 1 = 1
            each 3 = 2 2 3 2
            seed 1 = 662824084
            rounds 1 = 0
            seed 1 = 662824084
            """);
        edge("DRAW: an int that goes round; bits 16 to 30", """
            cluster 'node flaky 29 active;node'
            seed 2147483647 = 1
            rounds 1 = 0
            each 3 = 2 2
            seed -1 = 1043980748
            rounds 1
            seed -2147483648 = 288979989
            rounds 1
            seed 0 = 1406932606
            rounds 1
            seed 1 = -740551042
            """);
        edge("DRAW: bits 16 to 30 (and not 31) of a SEED that is below 0", """
            cluster 'node flaky 8 active;node'
            seed 2 = 1
            rounds 1 = 0
            each 3 = 2 2
            seed 2 = -2087924461
            undo = true
            cluster 'node flaky 9 active'
            power 0 false
            seed 2
            rounds 1 = 0
            each 3 = 0 1 2
            """);
        edge("(a) those who PASS and do not OMIT are SENDERS", """
            cluster 'node ahead 101 active;node'
            rounds 1 = 0
            each 3 = 2 1
            each 5 = 0 0
            each 4 = 2 2
            set 0 100 = 101
            rounds 1 = 0
            each 3 = 2 2
            """);
        edge("OMITS, PASSES, SHIFT and HEARS are all by what is so as the ROUND begins", """
            cluster 'node late 30;node late 30;node slow 9'
            law 'late 20 if not alone' = 1
            rounds 2 = 0
            rounds 1 = 0
            each 0 = 0 30 21
            each 5 = 1 3 5
            each 11 = 50 50 20
            """);
        edge("SHIFT and HEARS stay so till the end of the ROUND: (f) is by HELD UP as it was ahead of (c)", """
            cluster 'node active;node ahead 10 active'
            law 'late 40 if good>0' = 1
            rounds 1 = 0
            each 0 = 5 5
            each 11 = 40 40
            """);
    }

    private static void calling() {
        edge("(b) each LISTENING one's WAIT is 1 less; those of which it is 0 then CALL: one alone is ACTIVE, MEMBERS is itself alone", """
            cluster 'node;node;node off'
            rounds 1 = 0
            each 4 = 1 2 4
            each 3 = 1 1 0
            rounds 1 = 0
            each 4 = 0 1 4
            each 3 = 2 1 0
            each 5 = 1 0 0
            row 0 = 1 0 0 0
            count 7 = 1
            """);
        edge("(b) one alone is ACTIVE: RATE 0", """
            cluster 'node slow 2 active;node ahead 40 active;round 1'
            rounds 1 = 0
            each 2 = 5 -5
            power 0 false
            power 1 false
            power 0 true
            rounds 2 = 0
            each 2 = 0 -5
            each 3 = 2 0
            """);
        edge("(b) several COLLIDE, each has WAIT 3, its number and its HOLD", """
            cluster 'node;node;node'
            law 'hold 1 if node<1;hold 5 if node>1' = 2
            power 0 false
            power 0 true = 0
            each 4 = 3 3 4
            rounds 3 = 0
            each 4 = 4 4 1
            each 3 = 1 1 1
            row 0 = 2 1 1 4
            row 1 = 2 0 1 4
            rounds 1 = 0
            each 4 = 3 3 0
            row 0 = 3 2 0 0
            """);
        edge("(b) HOLD as all is then, its WAIT 0", """
            cluster 'node;node'
            law 'hold 1 if node<1' = 1
            power 0 false
            power 0 true
            law 'hold 5 if wait<1;hold 50 if wait>0;hold 7 if not even' = 3
            rounds 3 = 0
            each 4 = 8 9
            """);
        edge("(b) WAIT: 99 at most", """
            cluster 'node;node;node'
            law 'hold 2 if node<1;hold 1 if node<2 and node>0' = 2
            power 0 false
            power 1 false
            power 0 true
            power 1 true
            each 4 = 4 4 4
            law 'hold 95' = 1
            rounds 4 = 0
            each 4 = 98 99 99
            row 0 = 3 2 1 99
            row 1 = 3 1 1 99
            row 2 = 3 0 1 98
            """);
        edge("(b) if there are no SENDERS: also beside ACTIVE ones that do not send", """
            cluster 'node silent active;node ahead 101 active;node;node'
            rounds 4 = 0
            each 3 = 2 2 2 1
            each 4 = 2 3 0 1
            each 5 = 0 0 4 0
            each 6 = 0 0 0 0
            """);
        edge("(b) if there are SENDERS, WAIT stays", """
            cluster 'node;node active'
            rounds 1 = 0
            each 4 = 2 3
            each 3 = 2 2
            """);
    }

    private static void joining() {
        edge("(b) each LISTENING one JOINS that of the least number", """
            cluster 'node ahead 200 active;node silent active;node ahead 9 active;node ahead 5 active;node;node'
            rounds 1 = 1
            node 4 0 = 9
            each 3 = 3 2 2 2 2 2
            row 2 = 0 4 2 2
            row 1 = 0 5 2 2
            row 0 = 0 0 4 2
            """);
        edge("(b) CLOCK is the SHIFT of that one for it", """
            cluster 'node ahead 10 torn 7 active;node ahead 500;node behind 500;node off'
            law 'late 5' = 1
            rounds 1 = 0
            each 0 = 10 22 15 0
            """);
        edge("(b) CLOCK is the SHIFT (kept from - 999 to 999)", """
            cluster 'node ahead 999 torn 90 active;node slow 9;node slow 9;window 999'
            rounds 1 = 0
            each 0 = 999 990 990
            """);
        edge("(b) CLOCK is the SHIFT (the last one that needs not be kept)", """
            cluster 'node ahead 950 torn 48 active;node slow 9;node;window 999'
            rounds 1 = 0
            each 0 = 950 989 950
            """);
        edge("(b) MEMBERS that one's (as ahead of (c)) and itself", """
            cluster 'node active;node active;node'
            rounds 1 = 0
            each 5 = 3 3 5
            rounds 1 = 0
            each 5 = 7 7 7
            """);
        edge("(b) it is ACTIVE (RATE, GOOD and BAD stay)", """
            cluster 'node slow 2 active;node ahead 40 active;round 1'
            rounds 1 = 0
            each 2 = 5 -5
            power 1 false
            power 1 true
            rounds 1 = 0
            each 3 = 2 2
            each 2 = 5 -5
            each 6 = 1 0
            each 7 = 0 0
            """);
    }

    private static void judging() {
        edge("(c) GOOD: how many other SENDERS it HEARS, and 1 if it is a SENDER itself (8 at most)", """
            cluster '{7;node active};node silent active'
            rounds 1 = 0
            each 6 = 7 7 7 7 7 7 7 7
            each 7 = 0 0 0 0 0 0 0 0
            each 5 = 127 127 127 127 127 127 127 127
            spoil 7 0 0
            rounds 1 = 0
            each 6 = 8 8 8 8 8 8 8 8
            each 5 = 255 255 255 255 255 255 255 255
            """);
        edge("(c) BAD: how many other SENDERS it does not HEAR", """
            cluster '{7;node active};node ahead 101 active'
            rounds 1 = 1
            each 7 = 0 0 0 0 0 0 0 7
            each 6 = 7 7 7 7 7 7 7 0
            row 0 = 0 7 4 7
            node 7 5 = 0
            """);
        edge("(c) each OLD one: with no SENDERS, GOOD and BAD are 0, MEMBERS none", """
            cluster 'node active;node active'
            rounds 1 = 0
            each 6 = 2 2
            spoil 0 2 0
            spoil 1 2 0
            rounds 1 = 0
            each 6 = 0 0
            each 7 = 0 0
            each 5 = 0 0
            each 3 = 2 2
            """);
    }

    private static void acknowledging() {
        edge("(d) if there is another one: a SENDER alone stays", """
            cluster 'node active'
            rounds 60 = 0
            node 0 3 = 2
            node 0 5 = 1
            """);
        edge("(d) two that do not hear one another: there is no yet another one, both are FROZEN", """
            cluster 'node active;node ahead 60 active'
            rounds 1 = 2
            each 3 = 3 3
            row 0 = 0 1 3 1
            row 1 = 0 0 3 1
            count 7 = 2
            each 5 = 1 2
            """);
        edge("(d) of two that hear one another none is FROZEN", """
            cluster 'node active;node ahead 50 active'
            rounds 1 = 0
            each 5 = 3 3
            """);
        edge("(d) the next one has it not, the one behind that has: MEMBERS are without the first of both", """
            cluster 'node torn 60 active;node active;node active'
            rounds 1 = 0
            each 5 = 5 6 7
            each 6 = 3 2 3
            each 7 = 0 1 0
            """);
        edge("(d) the next one has it not, nor has the one behind that: FROZEN", """
            cluster 'node torn 60 active;node active;node behind 20 active;node active'
            law 'late 60 if node<1 and even' = 1
            rounds 1 = 1
            each 3 = 3 2 2 2
            row 0 = 0 0 3 0
            node 0 5 = 15
            """);
        edge("(d) round behind the last one to the first one", """
            cluster 'node active;node active;node ahead 50 late 1 active'
            rounds 1 = 1
            each 3 = 2 2 3
            row 0 = 0 2 3 0
            """);
        edge("(d) round behind the last one to the first one, and the one behind that", """
            cluster 'node ahead 20 active;node ahead 60 active;node ahead 51 late 20 active'
            rounds 1 = 0
            each 5 = 3 7 6
            """);
        edge("(d) round behind the last one but one, to the last one and the first one", """
            cluster 'node active;node torn 60 active;node ahead 10 active;node active'
            rounds 1 = 0
            each 5 = 15 15 15 13
            """);
        edge("(d) by MEMBERS as they are behind (c), whatever (d) alters", """
            cluster 'node torn 60 active;node late 40 active;node behind 20 active'
            rounds 1 = 0
            each 5 = 5 2 5
            each 3 = 2 2 2
            each 7 = 0 1 1
            """);
        edge("(d) SENDERS alone judge: one that OMITS is asked by none", """
            cluster 'node active;node ahead 60 silent active;node ahead 40 active'
            rounds 1 = 1
            each 3 = 2 3 2
            each 5 = 5 4 5
            row 0 = 0 1 4 1
            """);
    }

    private static void outvoting() {
        edge("(e) GOOD at most BAD: as good as bad is FROZEN", """
            cluster 'node silent active;node ahead 40 active;node ahead 90 active'
            rounds 1 = 1
            each 3 = 3 2 2
            each 6 = 1 2 2
            each 7 = 1 0 0
            row 0 = 0 0 4 1
            """);
        edge("(e) GOOD at most BAD: one more that is good, and it is not", """
            cluster 'node silent active;node ahead 40 active;node ahead 45 active;node ahead 90 active'
            rounds 1 = 0
            each 6 = 2 3 3 3
            each 7 = 1 0 0 0
            """);
        edge("(e) if BAD is above 0: GOOD 0 and BAD 0 is not FROZEN", """
            cluster 'node silent active;node silent active'
            rounds 60 = 0
            each 3 = 2 2
            """);
        edge("(e) that is not FROZEN by (d): each has one row, and counts once", """
            cluster 'node active;node active;node active;node ahead 200 active;window 999'
            rounds 1 = 1
            count 7 = 1
            row 0 = 0 3 3 3
            """);
        edge("rounds: how many NODES were FROZEN in these; in THE LOG those of (d) are ahead of those of (e)", """
            cluster 'node ahead 101 active;node ahead 999 active;node active;node ahead 60 active;node ahead 101 active'
            rounds 3 = 5
            row 4 = 0 2 3 1
            row 3 = 0 3 3 1
            row 2 = 0 0 4 1
            row 1 = 0 1 4 2
            row 0 = 0 4 4 1
            """);
        edge("(e) OLD ones alone: one that JOINS is not judged in this ROUND", """
            cluster 'node active;node ahead 50 active;node ahead 50 active;node fast 9;precision 50'
            rounds 1 = 0
            each 6 = 3 3 3 0
            each 7 = 0 0 0 0
            each 3 = 2 2 2 2
            """);
    }

    private static void correcting() {
        edge("(f) MID of 0 and of each other SENDER that it HEARS: FROZEN by then", """
            cluster 'node active;node ahead 20 active;node behind 60 late 90 active'
            rounds 1 = 1
            each 3 = 2 2 3
            each 0 = 20 20 -60
            row 0 = 0 2 4 2
            """);
        edge("(f) those that are ACTIVE still: what is FROZEN is not put right", """
            cluster 'node ahead 101 late 0 active;node ahead 60 active;node active;node active;precision 99'
            rounds 1 = 1
            each 3 = 3 2 2 2
            each 0 = 101 0 0 0
            """);
        edge("(f) each OLD one: one that JOINS is not put right in this ROUND", """
            cluster 'node active;node ahead 40 active;node ahead 40 active;node'
            rounds 1 = 0
            each 3 = 2 2 2 2
            each 0 = 40 40 40 0
            """);
        edge("(f) SENDERS that it does not HEAR count for nothing", """
            cluster 'node active;node ahead 30 active;node ahead 40 active;node ahead 51 active'
            rounds 1 = 0
            each 0 = 30 35 35 40
            """);
        edge("(f) if ROUND is even: CLOCK is so much more, RATE stays", """
            cluster 'node active;node ahead 16 active;round 998'
            rounds 1 = 0
            each 0 = 8 8
            each 2 = 0 0
            """);
        edge("(f) else RATE is so much by 4 more, CLOCK by (g) alone", """
            cluster 'node active;node ahead 16 active;round 999'
            rounds 1 = 0
            each 0 = 2 14
            each 2 = 2 -2
            """);
        edge("(f) RATE: by 4, rounded towards 0: 3 and - 3 are 0", """
            cluster 'node active;node ahead 7 active;round 1'
            rounds 1 = 0
            each 2 = 0 0
            """);
        edge("(f) RATE: by 4, rounded towards 0: 4 and - 4 are 1 and - 1", """
            cluster 'node active;node ahead 8 active;round 1'
            rounds 1 = 0
            each 2 = 1 -1
            """);
        edge("(f) RATE: by 4, rounded towards 0: 7 and - 7 are 1 and - 1", """
            cluster 'node active;node ahead 15 active;round 1'
            rounds 1 = 0
            each 2 = 1 -1
            """);
        edge("(f) RATE (kept from - 9 to 9): 9 and - 9 come about", """
            cluster 'node active;node ahead 72 active;precision 99;round 1'
            rounds 1 = 0
            each 2 = 9 -9
            """);
        edge("(f) RATE (kept from - 9 to 9): 10 and - 10 do not", """
            cluster 'node active;node ahead 80 active;precision 99;round 1'
            rounds 1 = 0
            each 2 = 9 -9
            rounds 1
            set 0 80
            set 1 0
            rounds 1 = 0
            each 2 = -1 1
            """);
        edge("(f) CLOCK is so much more: none is kept but by (g)", """
            cluster 'node ahead 999 torn 90 active;node ahead 999 slow 9 active;window 999;precision 999'
            rounds 1 = 0
            each 0 = 999 999
            """);
    }

    private static void running() {
        edge("(g) CLOCK is DRIFT and RATE more (kept from - 999 to 999)", """
            cluster 'node ahead 989 fast 9;node ahead 990 fast 9;node ahead 991 fast 9;node ahead 999 slow 9'
            cluster 'node behind 989 slow 9;node behind 990 slow 9;node behind 991 slow 9;node behind 999 fast 9'
            rounds 1 = 0
            each 0 = 998 999 999 990 -998 -999 -999 -990
            """);
        edge("(g) each NODE that is not OFF", """
            cluster 'node fast 1;node fast 2 active;node fast 3 off;node ahead 200 fast 4 active;node fast 5 silent active'
            rounds 1 = 1
            each 3 = 2 2 0 3 2
            each 0 = 1 2 0 204 5
            rounds 1
            node 3 0 = 208
            node 2 0 = 0
            """);
        edge("(g) DRIFT and RATE: RATE of one that is FROZEN or LISTENING, too", """
            cluster 'node slow 2 active;node ahead 40 active;round 1'
            rounds 1 = 0
            each 2 = 5 -5
            set 1 300
            rounds 1 = 1
            each 3 = 2 3
            node 1 0 = 295
            power 1 true = 3
            spoil 0 2 0
            rounds 1 = 0
            node 1 0 = 290
            node 1 3 = 1
            """);
        edge("ROUND is 1 more (9999 at most)", """
            cluster 'round 999'
            149 x rounds 60 = 0
            count 5 = 9939
            rounds 59 = 0
            count 5 = 9998
            rounds 1 = 0
            count 5 = 9999
            rounds 1 = 0
            count 5 = 9999
            add 0 = 0
            rounds 3 = 0
            row 0 = 9999 0 0 0
            count 5 = 9999
            """);
        edge("What is FROZEN keeps MEMBERS", """
            cluster 'node active;node ahead 60 active'
            rounds 1 = 2
            each 5 = 1 2
            rounds 60 = 0
            each 5 = 1 2
            each 6 = 1 1
            each 7 = 1 1
            """);
    }

    private static void rounds() {
        edge("rounds: so many ROUNDS more (1 to 60). IllegalArgumentException: they are none", """
            rounds 0 ! Argument
            rounds 61 ! Argument
            rounds -1 ! Argument
            rounds 2147483647 ! Argument
            rounds -2147483648 ! Argument
            count 8 = 0
            rounds 1 = 0
            count 5 = 1
            rounds 60 = 0
            count 5 = 61
            count 8 = 2
            """);
        edge("rounds: refused, it draws nothing and leaves the TAPE", """
            cluster 'node active'
            feed 1 2 3 4 5 = 20
            rounds 61 ! Argument
            rounds 0 ! Argument
            seed 1 = 1
            tape 20
            """);
        edge("IN N ROUNDS: just those OMIT whose OMITS is 100", """
            cluster 'node flaky 99 active;node'
            ahead 1 1 true = 2
            law 'omit 1' = 1
            ahead 1 1 true = 1
            law 'omit 99' = 1
            ahead 1 1 true = 1
            law 'late 1' = 1
            spoil 0 2 0
            ahead 1 1 true = 1
            """);
        edge("IN N ROUNDS (no DRAWS; nothing stays)", """
            cluster 'node flaky 50 active;node;node ahead 200 active'
            ahead 1 60 true = 2
            widest 60 = 200
            settles 0 = 1
            leads true = 0
            seed 1 = 1
            counts = 3 1 -1 100 50 0 2 0 0
            all 2 = 200 0 0 2 4 4 0 0 0 0 0
            """);
    }

    private static void acts() {
        edge("add: DRIFT (- 9 to 9): its number; it is LISTENING, CLOCK 0, WAIT 2 and its number", """
            add 10 ! Argument
            add -10 ! Argument
            add 2147483647 ! Argument
            add -2147483648 ! Argument
            add 9 = 0
            add -9 = 1
            add 0 = 2
            all 0 = 0 9 0 1 2 0 0 0 0 0 0
            all 1 = 0 -9 0 1 3 0 0 0 0 0 0
            count 8 = 3
            """);
        edge("add: IllegalStateException: there are 8", """
            cluster '{7;node}'
            add 1 = 7
            add 1 ! State
            count 8 = 1
            """);
        edge("add: of several exceptions the one told first is thrown", """
            cluster '{8;node}'
            add 10 ! Argument
            add 0 ! State
            """);
        edge("add: one that was undone leaves nothing to the next one of its number", """
            add 3 = 0
            set 0 500
            spoil 0 3 44
            rounds 2
            node 0 3 = 2
            rounds 1
            5 x undo = true
            count 0 = 0
            undo = false
            add -4 = 0
            all 0 = 0 -4 0 1 2 0 0 0 0 0 0
            """);
        edge("add: a NODE that came behind THE IMAGE leaves nothing to the next one of its number", """
            image
            cluster 'node slow 2 flaky 9 late 8 active;node ahead 40 active;round 1'
            seed 3 = 1
            rounds 1 = 0
            spoil 1 3 7
            all 0 = 3 -2 5 2 2 3 2 0 9 1 8
            back = true
            add 1 = 0
            all 0 = 0 1 0 1 2 0 0 0 0 0 0
            cluster 'node' = 1
            all 1 = 0 0 0 1 3 0 0 0 0 0 0
            """);
        edge("spoil: kind 0 NONE, 1 LATE, 2 SILENT, 3 TORN. IllegalArgumentException: the kind is none", """
            cluster 'node'
            spoil 0 -1 0 ! Argument
            spoil 0 4 0 ! Argument
            spoil 0 2147483647 0 ! Argument
            spoil 0 1 9 = 0
            spoil 0 2 9 = 1
            spoil 0 3 9 = 2
            spoil 0 0 9 = 3
            node 0 9 = 0
            count 8 = 4
            """);
        edge("spoil: n is none (of 1, 3: 0 to 99); n is no matter of 0 and 2", """
            cluster 'node'
            spoil 0 1 100 ! Argument
            spoil 0 1 -1 ! Argument
            spoil 0 3 100 ! Argument
            spoil 0 3 -1 ! Argument
            spoil 0 1 99 = 0
            node 0 10 = 99
            spoil 0 3 0 = 1
            node 0 10 = 0
            spoil 0 3 99 = 3
            spoil 0 2 100 = 3
            node 0 10 = 0
            spoil 0 1 0 = 2
            spoil 0 0 -2147483648 = 1
            node 0 10 = 0
            """);
        edge("a FAULT is told: of the kind that it was, it is an ACT, too", """
            cluster 'node late 5'
            spoil 0 1 5 = 1
            spoil 0 1 9 = 1
            count 8 = 2
            undo = true
            node 0 10 = 5
            undo = true
            undo = false
            """);
        edge("spoil: of several exceptions the one told first is thrown", """
            cluster 'node'
            spoil 1 4 0 ! Index
            spoil -1 1 100 ! Index
            spoil 8 1 0 ! Index
            spoil 0 4 100 ! Argument
            """);
        edge("set: a CLOCK is told: what it was. IllegalArgumentException: n is none (- 999 to 999)", """
            cluster 'node ahead 5'
            set 0 1000 ! Argument
            set 0 -1000 ! Argument
            set 0 2147483647 ! Argument
            set 0 -2147483648 ! Argument
            set 0 999 = 5
            set 0 -999 = 999
            set 0 0 = -999
            node 0 0 = 0
            count 8 = 3
            """);
        edge("set: of several exceptions the one told first is thrown", """
            cluster 'node'
            set 1 1000 ! Index
            set -1 0 ! Index
            set 1 0 ! Index
            """);
        edge("tune: WINDOW (precision false) or PRECISION is told: what it was. IllegalArgumentException: n is none (1 to 999)", """
            tune false 0 ! Argument
            tune false 1000 ! Argument
            tune true 0 ! Argument
            tune true 1000 ! Argument
            tune true -1 ! Argument
            tune false -2147483648 ! Argument
            tune false 1 = 100
            tune true 999 = 50
            tune false 999 = 1
            tune true 1 = 999
            counts = 0 0 -1 999 1 0 0 0 4
            """);
    }

    private static void power() {
        edge("one is switched on (that is OFF or FROZEN), or off: STATE as it was", """
            cluster 'node off;node active;node ahead 60 active;node'
            law 'late 99 if node>2' = 1
            rounds 1 = 2
            each 3 = 0 3 3 2
            power 0 true = 0
            power 1 true = 3
            power 2 false = 3
            power 3 false = 2
            power 0 false = 1
            each 3 = 0 1 0 0
            count 8 = 6
            """);
        edge("power: IllegalStateException: it is to be on and is LISTENING or ACTIVE, or off and OFF already", """
            cluster 'node off;node active;node'
            power 0 false ! State
            power 1 true ! State
            power 2 true ! State
            power 0 true = 0
            power 0 true ! State
            """);
        edge("power: of several exceptions the one told first is thrown", """
            cluster 'node'
            power 1 true ! Index
            power -1 false ! Index
            power 8 false ! Index
            power 0 true ! State
            """);
        edge("switched on: LISTENING, WAIT 2, its number and its HOLD, 99 at most", """
            cluster 'node off;node off;node off;node off'
            law 'hold 95' = 1
            power 0 true
            power 1 true
            power 2 true
            power 3 true
            each 4 = 97 98 99 99
            each 3 = 1 1 1 1
            """);
        edge("switched on: HOLD by all as it is ahead of that", """
            cluster 'node ahead 60 active;node active;node off;window 999'
            rounds 1 = 2
            law 'hold 1 if members>0;hold 2 if good>0;hold 4 if bad>0;hold 8 if wait<3;hold 16 if alone' = 5
            power 0 true = 3
            node 0 4 = 33
            node 0 5 = 0
            node 0 6 = 0
            node 0 7 = 0
            power 2 true = 0
            node 2 4 = 20
            """);
        edge("switched on: MEMBERS none, GOOD and BAD 0, all else stays", """
            cluster 'node slow 2 flaky 3 late 4 active;node ahead 40 active;round 1'
            seed 3
            rounds 1 = 0
            all 0 = 3 -2 5 2 2 3 2 0 3 1 4
            power 0 false = 2
            all 0 = 3 -2 5 0 2 0 2 0 3 1 4
            power 0 true = 0
            all 0 = 3 -2 5 1 2 0 0 0 3 1 4
            """);
        edge("switched off: MEMBERS none, all else stays (of one that is FROZEN)", """
            cluster 'node active;node ahead 60 active'
            rounds 1 = 2
            power 1 false = 3
            all 1 = 60 0 0 0 3 0 1 1 0 0 0
            """);
        edge("switched off: MEMBERS none, all else stays (WAIT of one that is LISTENING)", """
            cluster 'node;node;node'
            rounds 1 = 0
            each 4 = 1 2 3
            power 1 false = 1
            each 4 = 1 2 3
            each 3 = 1 0 1
            """);
    }

    private static void log() {
        edge("THE LOG: the latest 60 (as many as that)", """
            cluster '{6;node off}'
            law 'hold 1 if node<1;hold 1 if node<2;hold 1 if node<3;hold 1 if node<4;hold 1 if node<5' = 5
            power 0 true
            power 1 true
            power 2 true
            power 3 true
            power 4 true
            power 5 true
            each 4 = 7 7 7 7 7 7
            rounds 60 = 0
            count 7 = 42
            rounds 19 = 0
            count 7 = 60
            row 59 = 6 0 1 8
            row 60 = -1 -1 -1 -1
            row 0 = 78 5 1 8
            rounds 7 = 0
            row 59 = 6 0 1 8
            rounds 1 = 0
            count 7 = 60
            row 59 = 14 0 1 8
            row 0 = 86 5 1 8
            row 60 = -1 -1 -1 -1
            """);
        edge("THE LOG: the latest 60 (one more than fits)", """
            cluster '{8;node off}'
            law 'hold 1 if node<1;hold 1 if node<2;hold 1 if node<3;hold 1 if node<4;hold 1 if node<5;hold 1 if node<6;hold 1 if node<7' = 7
            power 0 true
            power 1 true
            power 2 true
            power 3 true
            power 4 true
            power 5 true
            power 6 true
            power 7 true
            rounds 60 = 0
            rounds 9 = 0
            count 7 = 56
            row 55 = 8 0 1 10
            rounds 10 = 0
            count 7 = 60
            row 59 = 8 4 1 10
            led 3 false = 7
            led 4 false = 8
            led 0 true = 78
            """);
        edge("log: so many ago (0 the latest); NONE without", """
            log 0 0 = -1
            log 0 3 = -1
            cluster 'node;node'
            rounds 3 = 0
            row 0 = 2 1 2 0
            row 1 = 1 0 0 0
            row 2 = -1 -1 -1 -1
            log -1 0 = -1
            log 2147483647 0 = -1
            log -2147483648 3 = -1
            """);
        edge("log: NoSuchElementException: another what", """
            cluster 'node;node'
            rounds 3 = 0
            log 0 -1 ! Element
            log 0 4 ! Element
            log 60 4 ! Element
            log -1 -1 ! Element
            log 0 2147483647 ! Element
            """);
        edge("led: how many rows of THE LOG are of a NODE; the ROUND of the latest (none)", """
            cluster 'node;node;node off'
            led 0 false = 0
            led 0 true = -1
            rounds 3 = 0
            led 0 false = 1
            led 0 true = 1
            led 1 false = 1
            led 1 true = 2
            led 2 false = 0
            led 2 true = -1
            set 1 400
            rounds 1 = 1
            led 1 false = 2
            led 1 true = 3
            led 3 false ! Index
            led -1 true ! Index
            """);
    }

    private static void undone() {
        edge("UNDONE: 12 are remembered; an ACT that went as the thirteenth came is remembered no more", """
            cluster 'node'
            set 0 1
            set 0 2
            10 x tune true 7
            count 8 = 12
            set 0 3
            count 8 = 12
            node 0 0 = 3
            undo = true
            node 0 0 = 2
            count 8 = 11
            11 x undo = true
            node 0 0 = 1
            count 4 = 50
            undo = false
            node 0 0 = 1
            count 8 = 0
            """);
        edge("UNDONE: exactly 12", """
            cluster 'node'
            set 0 1
            11 x tune true 7
            12 x undo = true
            node 0 0 = 0
            undo = false
            """);
        edge("UNDONE: the latest ACT not undone yet", """
            cluster 'node'
            set 0 1
            set 0 2
            undo = true
            set 0 3
            undo = true
            node 0 0 = 1
            undo = true
            node 0 0 = 0
            undo = false
            """);
        edge("UNDONE: ROUNDS of one call are one", """
            cluster 'node;node fast 3'
            rounds 60 = 0
            count 8 = 1
            undo = true
            counts = 2 1 -1 100 50 0 0 0 0
            all 1 = 0 3 0 1 3 0 0 0 0 0 0
            seed 1 = 1
            """);
        edge("UNDONE: 12 are remembered, however many went ahead of them", """
            30 x rounds 1
            count 5 = 30
            count 8 = 12
            12 x undo = true
            count 5 = 18
            undo = false
            3 x rounds 1
            count 8 = 3
            3 x undo = true
            count 5 = 18
            undo = false
            """);
        edge("UNDONE: all is as ahead of it: rows of THE LOG that were pushed out, too", """
            cluster '{6;node off}'
            law 'hold 1 if node<1;hold 1 if node<2;hold 1 if node<3;hold 1 if node<4;hold 1 if node<5' = 5
            power 0 true
            power 1 true
            power 2 true
            power 3 true
            power 4 true
            power 5 true
            rounds 60 = 0
            rounds 19 = 0
            image
            rounds 60 = 0
            row 59 = 62 0 1 8
            undo = true
            row 59 = 6 0 1 8
            row 0 = 78 5 1 8
            count 7 = 60
            rounds 60 = 0
            row 59 = 62 0 1 8
            back = true
            row 59 = 6 0 1 8
            row 0 = 78 5 1 8
            """);
        edge("UNDONE: each kind of ACT", """
            cluster 'node off;node'
            add 1
            undo = true
            count 0 = 2
            power 0 true
            undo = true
            power 1 false
            undo = true
            each 3 = 0 1
            each 4 = 2 3
            spoil 0 1 3
            undo = true
            set 0 3
            undo = true
            all 0 = 0 0 0 0 2 0 0 0 0 0 0
            tune false 3
            tune true 3
            2 x undo = true
            counts = 2 1 -1 100 50 0 0 0 0
            """);
        edge("UNDONE: all is as ahead of it: the log, the SEED", """
            cluster 'node active;node ahead 60 active'
            rounds 1 = 2
            seed 77 = -1770082073
            power 0 true = 3
            seed 88 = 77
            undo = true
            seed 5 = 77
            node 0 3 = 3
            node 0 7 = 1
            undo = true
            count 7 = 0
            row 0 = -1 -1 -1 -1
            seed 5 = 1
            each 3 = 2 2
            """);
        edge("UNDONE: but for the TAPE, fault()", """
            add 0 = 0
            cluster 'x' wrong 0
            feed 1 2 3 4 5 = 20
            undo = true
            fault = 0
            tape 20
            count 0 = 0
            """);
        edge("UNDONE: but for THE IMAGE", """
            cluster 'node'
            set 0 5
            image
            set 0 6
            2 x undo = true
            node 0 0 = 0
            back = true
            node 0 0 = 5
            """);
        edge("A text, going back: none are remembered", """
            add 0
            cluster '' = 1
            count 8 = 0
            undo = false
            count 0 = 1
            add 0
            law '' = 0
            count 8 = 0
            undo = false
            add 0
            image
            count 8 = 1
            back = true
            count 8 = 0
            undo = false
            count 0 = 3
            """);
        edge("A text, of THE CLUSTER or THE LAW, alters just what it tells: THE LOG, the SEED, THE IMAGE, all else stay", """
            cluster 'node;node off'
            image
            rounds 2 = 0
            tune false 7
            tune true 8
            seed 5 = 1
            cluster 'node' = 2
            row 0 = 1 0 0 0
            counts = 3 2 -1 7 8 2 1 1 0
            law 'late 1' = 1
            row 0 = 1 0 0 0
            counts = 3 2 1 7 8 2 1 1 0
            all 0 = 0 0 0 2 0 1 0 0 0 0 0
            seed 5 = 5
            back = true
            counts = 2 1 -1 100 50 0 0 0 0
            """);
        edge("A call that throws changes nothing: what is remembered stays", """
            cluster 'node'
            set 0 1
            cluster 'x' wrong 0
            law 'x' wrong 0
            rounds 61 ! Argument
            power 0 true ! State
            count 8 = 1
            undo = true
            node 0 0 = 0
            """);
        edge("A text that is refused as there are 12: what is remembered stays", """
            cluster 'node'
            11 x cluster ''
            set 0 1
            cluster 'node' ! Unsupported
            count 8 = 1
            undo = true
            node 0 0 = 0
            """);
        edge("undo: whether there was one; asking and the SEED are no ACTS", """
            cluster 'node active;node'
            seed 3
            settles 5
            widest 60
            trial 60 true
            span 60 true
            image
            undo = false
            rounds 61 ! Argument
            undo = false
            """);
    }

    private static void image() {
        edge("back: false, and nothing happens, if none was kept", """
            cluster 'node'
            set 0 4
            back = false
            node 0 0 = 4
            count 8 = 1
            undo = true
            """);
        edge("THE IMAGE of all may be kept, and gone back to", """
            cluster 'node active;node ahead 60 active;window 70' = 1
            law 'late 5;hold 6' = 2
            rounds 1 = 2
            seed 9
            image
            cluster 'node;round 500' = 2
            law '' = 0
            power 0 true
            set 1 -999
            spoil 1 3 9
            rounds 60
            tune false 999
            seed 8
            back = true
            counts = 2 1 2 70 50 1 0 2 0
            each 3 = 3 3
            each 7 = 1 1
            each 11 = 5 5
            row 0 = 0 1 3 1
            seed 1 = 9
            """);
        edge("THE IMAGE: back to it once more", """
            cluster 'node'
            image
            set 0 4
            back = true
            set 0 5
            back = true
            node 0 0 = 0
            set 0 6
            image
            set 0 7
            back = true
            node 0 0 = 6
            """);
        edge("THE IMAGE: but for the TAPE, fault()", """
            cluster 'x' wrong 0
            image
            cluster 'node x' wrong 5
            feed 1 2 3 4 5 = 20
            back = true
            fault = 5
            tape 20
            """);
        edge("THE IMAGE of a cluster without NODES", """
            image
            cluster '{8;node active}'
            back = true
            counts = 0 0 -1 100 50 0 0 0 0
            node 0 0 ! Index
            """);
    }
}
