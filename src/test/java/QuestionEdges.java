/** Edges of what is asked: SPREAD to SPAN, the rows of READ and BLAME, and exceptions of these calls. */
final class QuestionEdges {
    static void play() {
        together();
        cliques();
        settles();
        widest();
        leads();
        narrowAndTight();
        spare();
        order();
        read();
        when();
        blame();
        guilty();
        probe();
        pairs();
        share();
        rests();
        odds();
        most();
        ahead();
        count();
    }

    private static void edge(String sentence, String rows) {
        Edges.edge(sentence, rows);
    }

    private static void together() {
        edge("SPREAD: 0 with fewer than two", """
            spread = 0
            cluster 'node ahead 999;node behind 999 off' = 1
            spread = 0
            cluster 'node ahead 7 active' = 2
            spread = 0
            cluster 'node behind 8 active' = 3
            spread = 15
            """);
        edge("SPREAD: by how much the greatest and the least CLOCK of ACTIVE ones differ (as much as can be)", """
            cluster 'node active;node ahead 999 active;node behind 999 active;node;window 1' = 1
            spread = 1998
            set 2 -1
            spread = 1000
            set 0 -5
            spread = 1004
            rounds 1
            byState 2 = 13
            spread = 2
            """);
        edge("SPREAD: of CLOCKS below 0 alone", """
            cluster 'node behind 30 active;node behind 70 active;node'
            spread = 40
            """);
        edge("AGREED: whether all ACTIVE ones have the same MEMBERS (of none, of one)", """
            agreed = true
            cluster 'node;node off' = 1
            agreed = true
            cluster 'node active' = 2
            agreed = true
            cluster 'node active' = 3
            agreed = false
            power 3 false
            agreed = true
            """);
        edge("AGREED: of two that differ, and of the first one alone", """
            cluster 'node active;node active'
            agreed = false
            power 1 false
            agreed = true
            """);
        edge("AGREED: of none again, of all", """
            cluster 'node active;node active;node active;node'
            agreed = false
            rounds 1 = 0
            each 5 = 7 7 7 9
            agreed = false
            rounds 1 = 0
            agreed = true
            power 0 false
            agreed = true
            power 0 true
            agreed = true
            """);
        edge("AGREED: what is FROZEN has MEMBERS, and is not asked", """
            cluster 'node active;node active;node active;node ahead 101 active'
            rounds 1 = 1
            each 3 = 2 2 2 3
            each 5 = 7 7 7 0
            agreed = true
            """);
        edge("AGREED: of eight", """
            cluster '{8;node active}'
            agreed = false
            rounds 1 = 0
            each 5 = 255 255 255 255 255 255 255 255
            agreed = true
            power 7 false
            power 7 true
            agreed = true
            """);
    }

    private static void cliques() {
        edge("CLIQUES: into how many parts ACTIVE ones fall by FRIENDS (none, one, each alone)", """
            cliques = 0
            cluster 'node;node off' = 1
            cliques = 0
            cluster 'node active;node ahead 51 active;node ahead 102 active;node ahead 153 active' = 2
            cliques = 4
            cluster 'node ahead 204 active;node ahead 255 active' = 3
            cliques = 6
            each 15 = 0 0 4 8 16 32 64 128
            """);
        edge("CLIQUES: as far apart as the PRECISION", """
            cluster '{6;node active};node ahead 50 active;node ahead 100 active'
            cliques = 1
            node 0 15 = 255
            node 7 15 = 255
            tune true 49
            cliques = 3
            each 15 = 63 63 63 63 63 63 64 128
            """);
        edge("CLIQUES: by one that is far one comes from the first to the last", """
            cluster 'node active;node ahead 150 active;node ahead 50 active;node ahead 100 active'
            cliques = 1
            each 15 = 15 15 15 15
            power 3 false
            cliques = 2
            each 15 = 5 2 5 0
            """);
        edge("FRIENDS: two ACTIVE ones that HEAR one another (both ways)", """
            cluster 'node late 1 active;node behind 50 active;node ahead 20 off'
            hears 0 1 = true
            hears 1 0 = false
            cliques = 2
            each 15 = 1 2 0
            spoil 0 0 0
            cliques = 1
            each 15 = 3 3 0
            """);
        edge("CLIQUE of a NODE, MIDDLE of a NODE: 0, if it is not ACTIVE", """
            cluster 'node ahead 9 active;node;node off;node ahead 30 active'
            each 15 = 9 0 0 9
            each 16 = 10 0 0 -10
            """);
        edge("MIDDLE: if all that PASS were SENDERS", """
            cluster 'node flaky 100 active;node ahead 40 active;node ahead 20 active;node silent active;node ahead 60'
            each 16 = 20 -20 0 10 0
            tune false 39
            each 16 = 10 -20 -10 0 0
            tune true 39
            each 16 = 10 -10 -10 0 0
            """);
        edge("KNOWN: those, in whatever STATE, itself, too, that have it as one of their MEMBERS", """
            cluster 'node active;node active;node active;node ahead 60 active;node;node off;window 999'
            each 17 = 1 2 4 8 0 0
            law 'late 60 if node>2 and node<4'
            rounds 1 = 1
            each 3 = 2 2 2 3 2 0
            each 17 = 23 7 7 8 16 0
            each 5 = 7 7 7 8 17 0
            power 3 false
            node 3 17 = 0
            """);
    }

    private static void settles() {
        edge("SETTLES: S (0 to 999). IllegalArgumentException: S is none", """
            settles -1 ! Argument
            settles 1000 ! Argument
            settles 2147483647 ! Argument
            settles -2147483648 ! Argument
            settles 0 = -1
            settles 999 = -1
            """);
        edge("SETTLES: two at least are ACTIVE", """
            cluster 'node active'
            settles 999 = -1
            cluster 'node' = 2
            settles 0 = 1
            cluster 'node active' = 3
            settles 0 = 0
            """);
        edge("SETTLES: SPREAD is S at most", """
            cluster 'node silent active;node ahead 999 silent active;window 999'
            settles 999 = 0
            settles 998 = -1
            set 0 -1
            settles 999 = -1
            """);
        edge("SETTLES: the first N (0 to 60): the 60th", """
            cluster 'node fast 1 silent active;node ahead 60 silent active'
            settles 60 = 0
            settles 59 = 1
            settles 1 = 59
            settles 0 = 60
            """);
        edge("SETTLES: the first N (0 to 60): none behind the 60th", """
            cluster 'node fast 1 silent active;node ahead 61 silent active'
            settles 1 = 60
            settles 0 = -1
            """);
    }

    private static void widest() {
        edge("WIDEST: N (0 to 60). IllegalArgumentException: N is none", """
            widest -1 ! Argument
            widest 61 ! Argument
            widest 2147483647 ! Argument
            widest -2147483648 ! Argument
            widest 0 = 0
            widest 60 = 0
            """);
        edge("WIDEST: the greatest SPREAD IN 0 to N ROUNDS", """
            cluster 'node fast 9 silent active;node slow 9 silent active;node fast 9 off'
            widest 0 = 0
            widest 1 = 18
            widest 2 = 36
            widest 60 = 1080
            """);
        edge("WIDEST: now, if it is greatest now", """
            cluster 'node fast 1 silent active;node ahead 60 silent active'
            widest 0 = 60
            widest 60 = 60
            """);
        edge("WIDEST: behind the one that is greatest", """
            cluster 'node active;node fast 9 active;node ahead 40 active'
            widest 0 = 40
            widest 1 = 40
            rounds 1 = 0
            widest 0 = 9
            """);
        edge("WIDEST: IN N ROUNDS (no DRAWS: those that are FLAKY 99 are put right all the same)", """
            cluster 'node fast 9 flaky 99 active;node slow 9 flaky 99 active'
            widest 1 = 18
            widest 2 = 32
            widest 3 = 32
            trial 3 true = 54
            """);
    }

    private static void leads() {
        edge("LEADS: none", """
            leads false = -1
            leads true = -1
            cluster 'node off;node off'
            leads false = -1
            leads true = -1
            """);
        edge("LEADS: the first N (0 to 60) IN which some NODE is ACTIVE: now, of several the least", """
            cluster 'node;node active;node active;node off'
            leads false = 0
            leads true = 1
            """);
        edge("LEADS: in 60 ROUNDS", """
            cluster 'node off;node off'
            law 'hold 57' = 1
            power 1 true
            node 1 4 = 60
            leads false = 60
            leads true = 1
            rounds 1 = 0
            leads false = 59
            """);
        edge("LEADS: not in 61", """
            cluster 'node off;node off'
            law 'hold 58' = 1
            power 1 true
            node 1 4 = 61
            leads false = -1
            leads true = -1
            rounds 1 = 0
            leads false = 60
            leads true = 1
            """);
    }

    private static void narrowAndTight() {
        edge("NARROW: 1 without ACTIVE ones that are not SILENT", """
            narrow = 1
            cluster 'node ahead 900;node ahead 900 off;node ahead 900 silent active' = 1
            narrow = 1
            cluster 'node active' = 2
            narrow = 1
            set 3 -1
            narrow = 1
            set 3 -2
            narrow = 2
            """);
        edge("NARROW: the least WINDOW (1 to 999); none", """
            cluster 'node ahead 900 late 99 active;node behind 998 active'
            narrow = 999
            set 0 901
            narrow = -1
            set 0 900
            narrow = 999
            set 1 -999
            narrow = 999
            law 'late 1'
            narrow = -1
            """);
        edge("NARROW: by CLOCK and HELD UP (FLAKY and TORN are no matter)", """
            cluster 'node behind 40 late 5 active;node ahead 34 flaky 100 torn 50 active;window 1'
            narrow = 35
            count 3 = 1
            tune false 35
            each 14 = 1 1
            tune false 34
            each 14 = 0 1
            """);
        edge("NARROW: not SILENT alone: one whose OMITS is 100 counts", """
            cluster 'node ahead 300 flaky 100 active;node ahead 400 silent active;node ahead 500 flaky 100'
            narrow = 300
            law 'omit 99;late 1'
            narrow = 301
            """);
        edge("NARROW: of eight the last one", """
            cluster '{7;node active};node behind 77 active'
            narrow = 77
            tight = 77
            """);
        edge("TIGHT: 1 with fewer than two ACTIVE ones", """
            tight = 1
            cluster 'node;node ahead 500' = 1
            tight = 1
            cluster 'node ahead 900 late 99 active' = 2
            tight = 1
            cluster 'node ahead 999 active' = 3
            tight = 99
            """);
        edge("TIGHT: the least PRECISION (1 to 999) by which all ACTIVE ones HEAR one another; none", """
            cluster 'node behind 500 active;node ahead 499 active;node off'
            tight = 999
            set 1 500
            tight = -1
            set 1 -500
            tight = 1
            set 1 -499
            tight = 1
            set 1 -498
            tight = 2
            """);
        edge("TIGHT: either way, by SHIFT", """
            cluster 'node late 20 active;node ahead 30 active;node behind 10 torn 15 active'
            tight = 40
            tune true 40
            cliques = 1
            spare = 0
            tune true 39
            spare = 2
            """);
        edge("TIGHT: the first one HEARS the other one least", """
            cluster 'node active;node ahead 10 late 40 active'
            tight = 50
            """);
        edge("TIGHT: the other one HEARS the first one least", """
            cluster 'node ahead 10 late 40 active;node active'
            tight = 50
            """);
        edge("TIGHT: N of TORN for odd ones alone", """
            cluster 'node torn 90 active;node off;node active'
            tight = 1
            power 1 true
            rounds 1 = 0
            set 1 0
            tight = 90
            """);
        edge("TIGHT: all ACTIVE ones, those that are SILENT or OMIT, too", """
            cluster 'node active;node ahead 70 silent active'
            tight = 70
            law 'late 5 if node>0'
            tight = 75
            spoil 1 0 0
            law 'omit 99;omit 1;late 5 if node>0'
            tight = 75
            """);
    }

    private static void spare() {
        edge("SPARE: none must be left out", """
            spare = 0
            cluster 'node;node ahead 500' = 1
            spare = 0
            cluster 'node active' = 2
            spare = 0
            cluster 'node ahead 50 active' = 3
            spare = 0
            """);
        edge("SPARE: of several the least as bits", """
            cluster 'node active;node ahead 60 active'
            spare = 1
            cluster 'node ahead 120 active' = 2
            spare = 3
            cluster 'node ahead 80 active' = 3
            spare = 3
            cluster 'node ahead 30 active' = 4
            spare = 5
            """);
        edge("SPARE: the fewest, though others are less as bits", """
            cluster 'node active;node active;node active;node ahead 60 active'
            spare = 8
            cluster 'node ahead 60 active' = 2
            spare = 24
            cluster 'node ahead 60 active' = 3
            spare = 7
            """);
        edge("SPARE: of eight that are apart, all but one", """
            cluster 'node active;node ahead 60 active;node ahead 120 active;node ahead 180 active' = 1
            cluster 'node ahead 240 active;node ahead 300 active;node ahead 360 active;node ahead 420 active' = 2
            spare = 127
            power 7 false
            spare = 63
            power 0 false
            spare = 62
            """);
        edge("SPARE: FRIENDS, each of each (a chain is not)", """
            cluster 'node active;node ahead 40 active;node ahead 80 active;node ahead 120 active'
            cliques = 1
            spare = 3
            spoil 3 1 1
            spare = 3
            set 0 30
            spare = 8
            """);
    }

    private static void order() {
        edge("ORDER: 0 with fewer than two; the k-th; none", """
            order -1 = 0
            order 0 = -1
            cluster 'node;node ahead 900 active'
            order -1 = 0
            order 0 = 1
            order 1 = -1
            order -2 = -1
            order 2147483647 = -1
            order -2147483648 = -1
            """);
        edge("ORDER: the k-th of eight", """
            cluster 'node ahead 70 active;node ahead 60 active;node ahead 50 active;node ahead 40 active' = 1
            cluster 'node ahead 30 active;node ahead 20 active;node ahead 10 active;node behind 999 active' = 2
            order -1 = 1069
            order 0 = 0
            order 1 = 1
            order 6 = 6
            order 7 = 7
            order 8 = -1
            """);
        edge("ORDER: the first such order (by the first unlike one, the lesser)", """
            cluster 'node ahead 5 active;node active;node ahead 10 active'
            order -1 = 10
            order 0 = 1
            order 1 = 0
            order 2 = 2
            set 1 20
            order -1 = 15
            order 0 = 0
            order 1 = 2
            order 2 = 1
            set 1 10
            set 2 0
            order -1 = 10
            order 0 = 1
            order 1 = 0
            order 2 = 2
            """);
        edge("ORDER: like CLOCKS by the lesser number, from either end", """
            cluster 'node ahead 30 active;node ahead 9 active;node ahead 30 active;node ahead 9 active'
            order -1 = 21
            order 0 = 0
            order 1 = 2
            order 2 = 1
            order 3 = 3
            set 0 9
            order 0 = 0
            order 1 = 1
            order 2 = 3
            order 3 = 2
            """);
        edge("ORDER: as far as CLOCKS can be, ACTIVE ones alone", """
            cluster 'node behind 999 active;node ahead 999 active;node;node off;node active'
            order -1 = 1998
            order 0 = 0
            order 1 = 4
            order 2 = 1
            order 3 = -1
            """);
        edge("ORDER: what is FROZEN is none of them", """
            cluster 'node active;node ahead 10 active;node ahead 400 active;window 999'
            order -1 = 400
            rounds 1 = 1
            each 3 = 2 2 3
            each 0 = 5 5 400
            order -1 = 0
            order 0 = 0
            order 1 = 1
            order 2 = -1
            spread = 0
            """);
    }

    private static void read() {
        edge("READ: none may be told; at most 40 bytes", """
            read false [] = 1539
            read true [] = 0
            read false [40*0] = 0
            read true [40*0] = -1
            read false [42*0] ! Argument
            read true [41*0] ! Argument
            read false [400*0] ! Argument
            tape 0
            """);
        edge("READ: of each two bytes", """
            read false [0] ! Argument
            read true [0 128 1] ! Argument
            read true [39*0] ! Argument
            tape 0
            read true [0 128] = 760
            """);
        edge("READ: bytes that were cut off are none of its rows", """
            feed 8454143 -1 -1 -1 -1 = 20
            end 2 = true
            read true = 760
            feed 8454143 -1 -1 -1 -1 = 20
            end 2 = true
            when = 9
            """);
        edge("READ: a ROUND (0 to 99, else the TAPE is not that)", """
            read false [100 128] ! Argument
            read true [0 128 255 128] ! Argument
            read false [0 128 0 128 0 128 100 128] ! Argument
            read false [99 128 99 128] = 1
            read true [99 128 99 128] = 769
            read false [0 128 0 128] = 19
            """);
        edge("READ: FROM (- 40 to 40)", """
            read false [0 88 0 88] = 19
            read true [0 88 0 88] = 0
            read false [0 87 0 87] = 0
            read true [0 87 0 87] = -1
            read false [0 168 0 168] = 19
            read true [0 168 0 168] = 1520
            read false [0 169 0 169] = 0
            """);
        edge("READ: BY (- 9 to 9)", """
            read false [0 128 0 128 1 137 1 137] = 1
            read true [0 128 0 128 1 137 1 137] = 778
            read false [0 128 0 128 1 138 1 138] = 0
            read false [0 128 0 128 1 119 1 119] = 1
            read true [0 128 0 128 1 119 1 119] = 760
            read false [0 128 0 128 1 118 1 118] = 0
            """);
        edge("READ: a CLOCK (byte 0 to 255: 128 more than it was)", """
            read false [10 0 10 0] = 1
            read true [10 0 10 0] = 38
            read false [10 255 10 255] = 1
            read true [10 255 10 255] = 1481
            """);
        edge("READ: at most one row may be wrong", """
            read false [0 128 1 129 2 130] = 1
            read true [0 128 1 129 2 130] = 770
            read false [0 128 1 129 2 131] = 2
            read true [0 128 1 129 2 131] = 752
            read false [0 128 1 129 2 130 3 0] = 1
            read false [0 128 1 129 2 130 3 0 4 0] = 0
            read true [0 128 1 129 2 130 3 0 4 0] = -1
            """);
        edge("READ: of the fewest wrong rows the first", """
            read false [0 128 1 129] = 37
            read true [0 128 1 129] = 770
            read true [0 0] = 0
            read true [5 213] = 1538
            read true [0 168 1 177] = 1538
            """);
    }

    private static void when() {
        edge("WHEN: none with fewer than two", """
            when [0 128 0 128 0 128 1 129 1 129] = -1
            when [0 169 0 169] = -1
            when [40*0] = -1
            when [0 128 0 128 1 129 1 131] = 1
            when [0 128 1 129 2 131] = 0
            """);
        edge("WHEN: the ROUND (0 to 9); the greatest part is the least (of several the least)", """
            when [] = 9
            when [0 128 0 128 0 128] = 1
            when [0 128] = 9
            when [9 128 9 128 9 128] = 0
            12 x when [] = 9
            when [1 128 1 128 1 128] = 0
            """);
        edge("WHEN: the ROUND (0 to 9): by 9 those that fit are parted best; by 10 they would be, but it is none", """
            when [18 137 4 115] = 9
            read false [18 137 4 115] = 20
            when [0 105 13 166] = 1
            read false [0 105 13 166] = 26
            """);
        edge("WHEN: the first of all (FROM - 40, BY - 9) counts as well", """
            read false [0 88 0 88 1 79 1 80] = 2
            read true [0 88 0 88 1 79 1 80] = 0
            when [0 88 0 88 1 79 1 80] = 1
            """);
        edge("WHEN: IllegalArgumentException: the TAPE is not that", """
            when [0] ! Argument
            when [100 128] ! Argument
            when [0 128 100 128] ! Argument
            when [42*0] ! Argument
            tape 0
            when [41*0] ! Argument
            """);
    }

    private static void blame() {
        edge("BLAME: none may be told; at most 60 bytes", """
            blame [] = 17
            blame [0 1 1 0 1 1] = 15
            blame [0 1 1 0 1 1 0 1 1 0 1 1 0 1 1 0 1 1 0 1 1 0 1 1 0 1 1 0 1 1 0 1 1 0 1 1 0 1 1 0 1 1 0 1 1 0 1 1 0 1 1 0 1 1 0 1 1 0 1 1] = 15
            blame [0 1 1 0 1 1 0 1 1 0 1 1 0 1 1 0 1 1 0 1 1 0 1 1 0 1 1 0 1 1 0 1 1 0 1 1 0 1 1 0 1 1 0 1 1 0 1 1 0 1 1 0 1 1 0 1 1 0 1 1 0 1 1] ! Argument
            tape 0
            """);
        edge("BLAME: of each three bytes", """
            blame [0] ! Argument
            blame [0 1] ! Argument
            blame [0 1 1 0] ! Argument
            blame [0 1 1 0 1] ! Argument
            tape 0
            blame [0 1 1] = 17
            """);
        edge("BLAME: NODES 0 to 7, there or not, unlike ones, else the TAPE is not that", """
            blame [8 0 1] ! Argument
            blame [0 8 1] ! Argument
            blame [255 0 1] ! Argument
            blame [0 0 1] ! Argument
            blame [7 7 0] ! Argument
            blame [0 1 1 3 3 1] ! Argument
            blame [7 6 1] = 17
            blame [6 7 1 6 7 1] = 15
            """);
        edge("BLAME: whether the frame was heard (1) or not (0), else the TAPE is not that", """
            blame [0 1 2] ! Argument
            blame [0 1 255] ! Argument
            blame [0 1 1 0 2 2] ! Argument
            blame [0 1 0 0 1 0] = 2
            blame [0 1 1 0 1 1] = 15
            """);
        edge("BLAME: at most one row may be wrong", """
            blame [0 1 1 0 1 0] = 17
            blame [0 1 0 0 2 0] = 3
            blame [0 1 0 0 2 0 0 3 0] = 1
            blame [0 1 0 0 1 0 2 3 0 2 3 0] = 0
            blame [0 1 0 2 1 0 3 1 1] = 3
            """);
    }

    private static void guilty() {
        edge("GUILTY: nobody (0), one as a sender (1 and its number), one as a receiver (9 and its number)", """
            guilty [] = 0
            guilty [0 1 1 0 1 1] = 0
            guilty [0 1 0 0 1 0] = 1
            guilty [7 6 0 7 5 0] = 8
            guilty [1 0 0 2 0 0] = 9
            guilty [0 7 0 1 7 0] = 16
            """);
        edge("GUILTY: of the fewest wrong rows the first; none", """
            guilty [0 1 1 0 1 0] = 0
            guilty [4 1 0] = 5
            guilty [4 1 0 4 1 1] = 0
            guilty [4 1 0 5 1 0] = 10
            guilty [0 1 0 0 1 0 2 3 0 2 3 0] = -1
            """);
        edge("GUILTY: IllegalArgumentException: the TAPE is not that", """
            guilty [0] ! Argument
            guilty [8 0 1] ! Argument
            guilty [1 1 1] ! Argument
            guilty [0 1 2] ! Argument
            guilty [63*0] ! Argument
            tape 0
            """);
    }

    private static void probe() {
        edge("PROBE: none with fewer than two", """
            probe [0 1 0 0 2 0 0 3 0 0 4 0] = -1
            probe [0 1 0 0 1 0 2 3 0 2 3 0] = -1
            probe [6 7 0 6 7 0] = 7
            """);
        edge("PROBE: 8 times the sender and the receiver, unlike ones; of several the least", """
            probe [] = 1
            probe [1 0 0 1 0 0] = 10
            probe [7 0 0 7 0 0] = 8
            probe [0 1 1 1 2 1 2 3 1 3 4 1 4 5 1 5 6 1 6 7 1 1 0 1 2 0 1 7 0 0] = 56
            """);
        edge("PROBE: the greater part is the least", """
            probe [0 1 0 0 2 0] = 1
            probe [3 4 0 5 4 0] = 4
            probe [3 4 0 3 4 1 3 4 0] = 4
            """);
        edge("PROBE: IllegalArgumentException: the TAPE is not that", """
            probe [0 1] ! Argument
            probe [0 8 1] ! Argument
            probe [2 2 1] ! Argument
            probe [0 1 3] ! Argument
            probe [63*0] ! Argument
            tape 0
            """);
    }

    private static void pairs() {
        edge("PAIRS: how much (node NONE), or with which one is; NONE", """
            pairs -1 = 0
            cluster 'node;node active' = 1
            pairs -1 = 0
            pairs 0 = -1
            pairs 1 = -1
            cluster 'node ahead 1 active' = 2
            pairs -1 = 99
            pairs 0 = -1
            pairs 1 = 2
            pairs 2 = 1
            """);
        edge("pairs: IndexOutOfBoundsException: there is no such NODE", """
            pairs 0 ! Index
            cluster 'node'
            pairs 1 ! Index
            pairs -2 ! Index
            pairs 8 ! Index
            pairs 2147483647 ! Index
            pairs 0 = -1
            """);
        edge("PAIRS: 100 less the difference of CLOCKS, only where that is above 0", """
            cluster 'node active;node ahead 99 active;precision 999'
            pairs -1 = 1
            pairs 0 = 1
            set 1 100
            pairs -1 = 0
            pairs 0 = -1
            set 1 101
            pairs -1 = 0
            set 1 -99
            pairs 1 = 0
            set 1 0
            pairs -1 = 100
            """);
        edge("PAIRS: just FRIENDS", """
            cluster 'node active;node ahead 50 active'
            pairs -1 = 50
            set 1 51
            pairs -1 = 0
            pairs 1 = -1
            set 1 50
            spoil 1 1 1
            pairs -1 = 0
            """);
        edge("PAIRS: each in one such pair at most; together the most", """
            cluster 'node active;node ahead 30 active;node ahead 2 active;node ahead 31 active'
            pairs -1 = 197
            pairs 0 = 2
            pairs 1 = 3
            pairs 2 = 0
            pairs 3 = 1
            power 3 false
            pairs -1 = 98
            pairs 1 = -1
            """);
        edge("PAIRS: together the most, though the best pair is not one of them", """
            cluster 'node active;node ahead 40 active;node ahead 50 active;node ahead 90 active'
            pairs -1 = 120
            pairs 0 = 1
            pairs 2 = 3
            """);
        edge("PAIRS: the first such way (NODE by NODE, none being the least, then the others)", """
            cluster '{7;node active}'
            pairs -1 = 300
            pairs 0 = -1
            pairs 1 = 2
            pairs 3 = 4
            pairs 5 = 6
            pairs 6 = 5
            cluster 'node active' = 2
            pairs -1 = 400
            pairs 0 = 1
            pairs 7 = 6
            """);
    }

    private static void share() {
        edge("share: N (0 to 99). IndexOutOfBoundsException; IllegalArgumentException: N is none", """
            share 0 0 ! Index
            cluster 'node'
            share 1 100 ! Index
            share -1 -1 ! Index
            share 0 -1 ! Argument
            share 0 100 ! Argument
            share 0 0 = 0
            share 0 1 = 1
            share 0 99 = 99
            """);
        edge("SHARE: of several the least", """
            cluster '{8;node off}'
            share 0 1 = 1
            share 1 1 = 0
            share 6 7 = 1
            share 7 7 = 0
            share 7 8 = 1
            share 0 9 = 2
            """);
        edge("SHARE: by 1 more than the slots it has so far, rounded down", """
            cluster 'node;node'
            share 0 24 = 12
            share 0 25 = 13
            share 0 26 = 14
            share 1 26 = 12
            share 1 27 = 13
            share 1 28 = 14
            """);
        edge("SHARE: 100 less FLAKY", """
            cluster 'node flaky 50;node;node flaky 100'
            share 1 1 = 1
            share 0 2 = 1
            share 1 3 = 2
            share 1 4 = 3
            share 0 4 = 1
            share 2 99 = 0
            law 'omit 99 if node>0 and node<2'
            share 1 4 = 3
            """);
        edge("SHARE: 100 less FLAKY, by 1 more than the slots it has so far: 33 of 66 by 2 is as much as 100 by 3", """
            cluster 'node flaky 34;node'
            share 1 1 = 1
            share 0 2 = 1
            share 1 3 = 2
            share 0 4 = 2
            """);
        edge("SHARE: NODES in whatever STATE; a FAULT is no matter", """
            cluster 'node silent;node flaky 50 active;node off'
            share 0 1 = 1
            share 2 2 = 1
            """);
        edge("SHARE: all have 0 claims", """
            cluster 'node flaky 100;node flaky 100'
            share 0 99 = 99
            share 1 99 = 0
            """);
    }

    private static void rests() {
        edge("RESTS: choices from which neither would have more by its other one", """
            rests 0 ! Index
            cluster '{7;node active};node ahead 101 active'
            rests 0 = 0
            rounds 1 = 1
            each 6 = 7 7 7 7 7 7 7 0
            node 7 7 = 7
            rests 0 = 0
            rests 7 = 0
            """);
        edge("rests: IndexOutOfBoundsException: there is no such NODE", """
            cluster 'node;node'
            rests 2 ! Index
            rests -1 ! Index
            rests 8 ! Index
            rests 1 = 0
            """);
    }

    private static void odds() {
        edge("odds: N ROUNDS (0 to 5) and K (0 to 5). IllegalArgumentException: N or K are none", """
            cluster 'node flaky 50'
            odds 0 6 0 ! Argument
            odds 0 -1 0 ! Argument
            odds 0 0 6 ! Argument
            odds 0 0 -1 ! Argument
            odds 0 2147483647 0 ! Argument
            odds 0 5 5 = 312
            odds 0 0 0 = 10000
            odds 0 0 5 = 0
            """);
        edge("odds: of several exceptions the one told first is thrown", """
            odds 0 6 6 ! Index
            cluster 'node'
            odds 1 6 0 ! Index
            odds -1 0 6 ! Index
            odds 0 6 6 ! Argument
            """);
        edge("ODDS: that it omits in K of them at least", """
            cluster 'node flaky 50'
            odds 0 5 0 = 10000
            odds 0 5 1 = 9687
            odds 0 5 2 = 8125
            odds 0 5 3 = 5000
            odds 0 5 4 = 1875
            odds 0 4 5 = 0
            odds 0 1 1 = 5000
            """);
        edge("ODDS: in ten thousandths, rounded down", """
            cluster 'node flaky 1;node flaky 99;node flaky 33'
            odds 0 2 2 = 1
            odds 0 3 3 = 0
            odds 0 5 1 = 490
            odds 1 5 5 = 9509
            odds 1 5 1 = 9999
            odds 2 2 1 = 5511
            """);
        edge("ODDS: by OMITS as it is now (0, 100, by the law)", """
            cluster 'node;node flaky 100;node silent;node flaky 40'
            odds 0 5 0 = 10000
            odds 0 5 1 = 0
            odds 1 5 5 = 10000
            odds 2 5 5 = 10000
            law 'omit 60 if even' = 1
            odds 3 5 5 = 10000
            odds 0 1 1 = 6000
            rounds 1
            odds 0 1 1 = 0
            odds 3 1 1 = 4000
            """);
    }

    private static void most() {
        edge("FASTEST, SLOWEST, FARTHEST: none, each. NoSuchElementException: another what", """
            most -1 ! Element
            most 3 ! Element
            most 2147483647 ! Element
            most 0 = -1
            most 1 = -1
            most 2 = -1
            """);
        edge("FASTEST: the NODE of the most DRIFT and RATE together; SLOWEST: of the least; of several the least", """
            cluster 'node fast 1;node fast 9;node fast 9 off;node slow 9;node slow 9;node'
            most 0 = 1
            most 1 = 3
            cluster 'node slow 9' = 2
            most 1 = 3
            """);
        edge("FASTEST, SLOWEST: all are below 0, all are above 0", """
            cluster 'node slow 3;node slow 2;node slow 3'
            most 0 = 1
            most 1 = 0
            cluster 'node fast 5;node fast 4' = 2
            most 0 = 3
            most 1 = 0
            """);
        edge("FASTEST, SLOWEST: with RATE", """
            cluster 'node slow 5 active;node ahead 40 fast 4 active;node fast 1;round 1'
            rounds 1 = 0
            each 2 = 5 -5 0
            most 0 = 2
            most 1 = 1
            """);
        edge("FARTHEST: of the most CLOCK without its sign (of several the least)", """
            cluster 'node;node ahead 5;node behind 5;node behind 4 off'
            most 2 = 1
            set 2 -6
            most 2 = 2
            set 3 -999
            most 2 = 3
            set 1 999
            most 2 = 1
            """);
        edge("by STATE: NODES in it, as bits. NoSuchElementException: another one", """
            byState -1 ! Element
            byState 4 ! Element
            byState 2147483647 ! Element
            byState 0 = 0
            byState 3 = 0
            cluster '{7;node off};node active'
            byState 0 = 127
            byState 1 = 0
            byState 2 = 128
            byState 3 = 0
            """);
        edge("by STATE: each of the four", """
            cluster 'node active;node active;node ahead 60 active;node off;node'
            law 'hold 9;late 60 if node>1 and node<3'
            rounds 1 = 1
            byState 0 = 8
            byState 1 = 0
            byState 2 = 19
            byState 3 = 4
            power 2 true
            byState 1 = 4
            """);
        edge("TWINS: pairs of NODES of like DRIFT and STATE: how many", """
            twins = 0
            cluster 'node fast 3' = 1
            twins = 0
            cluster 'node fast 3 active;node slow 3;node fast 3 off' = 2
            twins = 0
            cluster 'node ahead 9 fast 3 flaky 5 late 3;node fast 3;node slow 3' = 3
            twins = 4
            """);
        edge("TWINS: of eight that are all alike", """
            cluster '{8;node fast 9}'
            twins = 28
            """);
    }

    private static void ahead() {
        edge("ahead: N (0 to 60). IllegalArgumentException: N is none", """
            cluster 'node fast 2'
            ahead 0 -1 true ! Argument
            ahead 0 61 false ! Argument
            ahead 0 2147483647 true ! Argument
            ahead 0 0 false = 0
            ahead 0 0 true = 1
            ahead 0 1 true = 1
            ahead 0 2 true = 2
            ahead 0 60 false = 120
            """);
        edge("ahead: of several exceptions the one told first is thrown", """
            ahead 0 61 true ! Index
            cluster 'node'
            ahead 1 61 false ! Index
            ahead -1 0 false ! Index
            ahead 0 61 true ! Argument
            """);
        edge("TRIAL: N (0 to 60). IllegalArgumentException: N is none", """
            cluster 'node;node;node ahead 4 off'
            trial -1 true ! Argument
            trial 61 false ! Argument
            trial -2147483648 false ! Argument
            trial 0 false = 0
            trial 0 true = 0
            trial 2 false = 1
            trial 3 false = 3
            trial 60 false = 3
            trial 60 true = 0
            """);
        edge("TRIAL: draws, too (38 is below 39 and not below 38); nothing stays", """
            cluster 'node flaky 39 active;node ahead 9'
            trial 1 false = 1
            ahead 1 1 true = 2
            seed 2 = 1
            trial 1 false = 1
            seed 5 = 2
            trial 1 false = 3
            trial 1 true = 0
            seed 1 = 5
            counts = 2 1 -1 100 50 0 1 0 0
            """);
        edge("SPAN: N (0 to 60). IllegalArgumentException: N is none", """
            span -1 true ! Argument
            span 61 false ! Argument
            span 2147483647 true ! Argument
            span 0 true = 0
            span 60 false = 0
            cluster '{8;node active}'
            span 0 true = 8
            span 0 false = 8
            span 60 true = 8
            span 60 false = 8
            """);
        edge("SPAN: from SEED 1, 2, .. 6 (DRAWS 38, 8, 47, 17, 55, 26; of 7 it is 64)", """
            cluster 'node flaky 8 active;node'
            seed 99 = 1
            span 1 false = 2
            cluster 'node' = 2
            power 0 false
            span 1 true = 0
            seed 1 = 99
            """);
        edge("SPAN: from SEED 1, 2, .. 6, and not from the SEED that is (132: its DRAW is 0)", """
            cluster 'node flaky 1 active;node'
            seed 132 = 1
            trial 1 false = 1
            span 1 false = 2
            span 1 true = 2
            trial 1 false = 1
            seed 1 = 132
            """);
        edge("SPAN: from SEED 2, the least DRAW (8 is below 9)", """
            cluster 'node flaky 9 active;node'
            span 1 false = 1
            span 1 true = 2
            """);
        edge("SPAN: from SEED 5, the greatest DRAW (55 is below 56)", """
            cluster 'node flaky 56 active;node'
            span 1 false = 1
            span 1 true = 1
            """);
        edge("SPAN: from SEED 5, the greatest DRAW (55 is not below 55)", """
            cluster 'node flaky 55 active;node'
            span 1 true = 2
            """);
        edge("SPAN: from SEED 6 (26 and 15: both OMIT by it alone)", """
            cluster 'node flaky 27 active;node flaky 16 active;node'
            span 1 false = 2
            span 1 true = 3
            """);
        edge("SPAN: from SEED 1 (of the third DRAWS 13 is the least: below 14)", """
            cluster 'node flaky 100 active;node flaky 100 active;node flaky 14 active;node'
            span 1 false = 3
            span 1 true = 4
            """);
        edge("SPAN: from SEED 1 (of the third DRAWS 13 is the least: not below 13)", """
            cluster 'node flaky 100 active;node flaky 100 active;node flaky 13 active;node'
            span 1 false = 4
            """);
        edge("seed: SEED: what it was (any int)", """
            seed 2147483647 = 1
            seed -2147483648 = 2147483647
            seed 0 = -2147483648
            seed 1 = 0
            count 8 = 0
            """);
    }

    private static void count() {
        edge("count: 2 LINES of THE LAW (NONE without one). NONE for another what", """
            count -1 = -1
            count 9 = -1
            count 2147483647 = -1
            count -2147483648 = -1
            count 2 = -1
            law '' = 0
            count 2 = 0
            """);
        edge("count: 0 NODES, 1 texts, 2 LINES, 3 WINDOW, 4 PRECISION, 5 ROUND, 6 ACTIVE ones, 7 rows, 8 acts", """
            cluster '{2;node active};node;window 3;precision 4' = 1
            cluster 'round 5' = 2
            law 'late 1;hold 3' = 2
            counts = 3 2 2 3 4 5 2 0 0
            rounds 1 = 0
            add 0
            counts = 4 2 2 3 4 6 3 1 2
            """);
    }
}
