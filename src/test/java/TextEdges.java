/** Edges of the TAPE, of texts, of what is told of a NODE at first, and of exceptions of these calls. */
final class TextEdges {
    static void play() {
        object();
        tape();
        atFirst();
        clusterTexts();
        clusterNumbers();
        clusterWords();
        lawLines();
        lawSums();
        lawConditions();
        lawDepth();
        lawWrong();
        fault();
    }

    private static void edge(String sentence, String rows) {
        Edges.edge(sentence, rows);
    }

    private static void object() {
        edge("A cluster without NODES", """
            counts = 0 0 -1 100 50 0 0 0 0
            node 0 0 ! Index
            seed 1 = 1
            undo = false
            back = false
            fault = -1
            log 0 0 = -1
            tape 0
            """);
        edge("An object is used for at most 512 calls after it has been made", """
            add 0 = 0
            set 0 7 = 0
            508 x set 0 7 = 7
            count 8 = 12
            node 0 0 = 7
            """);
    }

    private static void tape() {
        edge("feed: twenty bytes come behind the TAPE, of each number the highest first: how many it has", """
            feed 1852793957 997093220 1698393711 1684355950 1868850464 = 20
            feed 997093220 1694498816 0 0 0 = 40
            end 25 = true
            cluster = 1
            count 0 = 5
            """);
        edge("feed: of each number the highest first (one below 0 as well)", """
            feed -2147483648 0 0 0 -1 = 20
            end 1 = true
            mid = 0
            feed -2 0 0 0 0
            end 4 = true
            mid = 127
            feed 33489664 0 0 0 0
            end 3 = true
            mid = -125
            """);
        edge("feed: NONE, and none come, if it would have more than 400", """
            feed 1852793957 538976288 538976288 538976288 538976288 = 20
            18 x feed 538976288 538976288 538976288 538976288 538976288
            feed 538976288 538976288 538976288 538976288 538976288 = 400
            feed 2021161080 0 0 0 0 = -1
            tape 400
            cluster = 1
            count 0 = 1
            """);
        edge("feed: NONE, if it would have more than 400 (by one as well)", """
            20 x feed 0 0 0 0 0
            end 381 = true
            feed 0 0 0 0 0 = -1
            tape 381
            end 380 = true
            feed 0 0 0 0 0 = 400
            tape 400
            end 399 = true
            feed 0 0 0 0 0 = -1
            """);
        edge("end: the TAPE has its first n bytes alone: true", """
            feed 1852793957 997093220 1694498816 0 0
            end 20 = true
            end 9 = true
            cluster = 1
            count 0 = 2
            feed 1852793957 997093220 1694498816 0 0
            end 9 = true
            end 4 = true
            end 9 = false
            cluster = 2
            count 0 = 3
            end 0 = true
            """);
        edge("end: what was cut off does not come back", """
            feed 1852793957 2021161080 0 0 0 = 20
            end 4 = true
            feed 997093220 1694498816 0 0 0 = 24
            end 9 = true
            cluster = 1
            count 0 = 2
            """);
        edge("end: false, and nothing happens, if it has fewer, or n is below 0", """
            end 1 = false
            end -1 = false
            end 0 = true
            feed 1852793957 0 0 0 0 = 20
            end 21 = false
            end 2147483647 = false
            end -1 = false
            end -2147483648 = false
            tape 20
            end 4 = true
            end 5 = false
            cluster = 1
            count 0 = 1
            """);
    }

    private static void atFirst() {
        edge("NODES: RATE 0, STATE LISTENING, MEMBERS none, GOOD and BAD 0, FLAKY 0, FAULT NONE at first", """
            cluster 'node'
            add 0 = 1
            all 0 = 0 0 0 1 2 0 0 0 0 0 0
            all 1 = 0 0 0 1 3 0 0 0 0 0 0
            """);
        edge("WAIT at first 2 and its number", """
            cluster '{5;node}'
            cluster 'node off;node active'
            add 0 = 7
            each 4 = 2 3 4 5 6 7 8 9
            """);
        edge("NODES at most 8, numbered from 0 on", """
            node 0 0 ! Index
            cluster '{8;node}' = 1
            count 0 = 8
            node 7 4 = 9
            node 8 0 ! Index
            """);
        edge("WINDOW (100 at first). PRECISION (50 at first). ROUND (0 at first).", """
            cluster '' = 1
            counts = 0 1 -1 100 50 0 0 0 0
            """);
        edge("node: NoSuchElementException: another what", """
            cluster 'node;node off'
            node 1 -1 ! Element
            node 1 18 ! Element
            node 1 2147483647 ! Element
            node 1 -2147483648 ! Element
            node 1 0 = 0
            node 1 17 = 0
            """);
        edge("node: of several exceptions the one told first is thrown", """
            cluster 'node'
            node 1 18 ! Index
            node -1 -1 ! Index
            node -2147483648 0 ! Index
            node 2147483647 0 ! Index
            node 8 0 ! Index
            """);
    }

    private static void clusterTexts() {
        edge("THE CLUSTER is told in texts (at most 12, one behind another)", """
            cluster 'node' = 1
            10 x cluster 'window 8'
            count 1 = 11
            cluster 'node' = 12
            count 0 = 2
            """);
        edge("cluster: UnsupportedOperationException: there are 12; fault(), where a text is read (also one that is refused)", """
            12 x cluster 'window 8'
            law 'x' wrong 0
            cluster 'node' ! Unsupported
            fault = -1
            cluster '' ! Unsupported
            counts = 0 12 -1 8 50 0 0 0 0
            tape 0
            """);
        edge("law: no text of THE CLUSTER, so 12 of these leave room for it", """
            12 x cluster 'window 8'
            law 'late 3' = 1
            law 'late 3;late 4' = 2
            counts = 0 12 2 8 50 0 0 0 0
            """);
        edge("cluster: of several exceptions the one told first is thrown", """
            12 x cluster 'window 8'
            cluster 'window 0' wrong 7
            cluster 'node' ! Unsupported
            cluster '{9;node}' wrong 40
            tape 0
            """);
        edge("cluster: a wrong text is none of the 12", """
            11 x cluster ''
            3 x cluster 'nod' wrong 0
            count 1 = 11
            cluster 'node' = 12
            count 0 = 1
            """);
        edge("Uses the TAPE up", """
            cluster 'node' = 1
            tape 0
            cluster = 2
            count 0 = 1
            cluster 'nodes' wrong 0
            tape 0
            law 'late 3' = 1
            tape 0
            law 'lat' wrong 0
            tape 0
            """);
        edge("LINE { ; LINE }, at most 14", """
            cluster '{14;round 7}' = 1
            cluster '{6;window 5};{8;node}' = 2
            counts = 8 2 -1 5 50 7 0 0 0
            """);
        edge("of a LINE too many, the first word", """
            cluster '{15;round 7}' wrong 112
            cluster '{14;round 7}; round 7' wrong 113
            cluster '{14;round 7}; x' wrong 113
            cluster '{16;round 7}' wrong 112
            cluster '{8;node};{6;round 7};node' wrong 88
            """);
        edge("the text's length, if more must come (a LINE too many that is not there)", """
            cluster '{14;round 7};' wrong 112
            cluster '{14;round 7};  ' wrong 114
            """);
        edge("of a NODE too many, the first word", """
            cluster '{9;node}' wrong 40
            cluster '{8;node}; node ahead 1000' wrong 41
            cluster '{8;node};window 3;node' wrong 49
            cluster '{8;node};window 3' = 1
            cluster 'node' wrong 0
            """);
        edge("of a NODE too many: those of the texts ahead count, too", """
            cluster '{7;node}' = 1
            cluster ' node; node' wrong 7
            cluster 'node' = 2
            """);
        edge("A text that is empty, or blanks alone, has no LINE", """
            cluster '' = 1
            cluster ' ' = 2
            cluster '{400| }' = 3
            counts = 0 3 -1 100 50 0 0 0 0
            law 'late 3' = 1
            law '' = 0
            count 2 = 0
            law '   ' = 0
            count 2 = 0
            """);
        edge("Of a wrong text nothing stays", """
            cluster 'node ahead 5;window 7;precision 8;round 9' = 1
            law 'late 4' = 1
            cluster 'node;node;window 1;precision 2;round 3;node late 100' wrong 49
            cluster 'node active;window' wrong 18
            law 'late 9;omit 5;hold' wrong 18
            law 'late 9 if even;late 100' wrong 20
            counts = 1 1 1 7 8 9 0 0 0
            node 0 11 = 4
            """);
        edge("cluster: as long a text as the TAPE has", """
            cluster 'node{392| }' = 1
            cluster 'node{392| };' wrong 397
            cluster 'node{393| };;' wrong 398
            cluster '{396| }node' = 2
            cluster '{397| }nod' wrong 397
            """);
    }

    private static void clusterNumbers() {
        edge("node [ ahead N | behind N ]: of 0 to 999, else 0", """
            cluster 'node ahead 1000' wrong 11
            cluster 'node behind 1000' wrong 12
            cluster 'node ahead 999;node behind 999;node ahead 0;node behind 0;node' = 1
            each 0 = 999 -999 0 0 0
            """);
        edge("[ fast N | slow N ]: of 0 to 9, else 0", """
            cluster 'node fast 10' wrong 10
            cluster 'node slow 10' wrong 10
            cluster 'node fast 9;node slow 9;node fast 0;node slow 0;node' = 1
            each 1 = 9 -9 0 0 0
            """);
        edge("FLAKY 0 to 100", """
            cluster 'node flaky 101' wrong 11
            cluster 'node flaky 999' wrong 11
            cluster 'node flaky 100;node flaky 0;node' = 1
            each 8 = 100 0 0
            """);
        edge("late, torn 0 to 99", """
            cluster 'node late 100' wrong 10
            cluster 'node torn 100' wrong 10
            cluster 'node late 99;node torn 99;node late 0;node torn 0' = 1
            each 9 = 1 3 1 3
            each 10 = 99 99 0 0
            """);
        edge("FAULT: N 0 of NONE and SILENT", """
            cluster 'node silent 0' wrong 12
            cluster 'node silent;node' = 1
            each 9 = 2 0
            each 10 = 0 0
            """);
        edge("[ off | active ]; active: MEMBERS is itself alone", """
            cluster '{6;node active};node off;node' = 1
            each 3 = 2 2 2 2 2 2 0 1
            each 5 = 1 2 4 8 16 32 0 0
            each 6 = 0 0 0 0 0 0 0 0
            """);
        edge("active: MEMBERS is itself alone (of the last NODE)", """
            cluster '{7;node}' = 1
            cluster 'node active' = 2
            node 7 5 = 128
            """);
        edge("window N: WINDOW 1 to 999", """
            cluster 'window 0' wrong 7
            cluster 'window 1000' wrong 7
            cluster 'window 1' = 1
            count 3 = 1
            cluster 'window 999' = 2
            count 3 = 999
            cluster 'window 5;window 6' = 3
            count 3 = 6
            """);
        edge("precision N: PRECISION 1 to 999", """
            cluster 'precision 0' wrong 10
            cluster 'precision 1000' wrong 10
            cluster 'precision 1' = 1
            count 4 = 1
            cluster 'precision 999' = 2
            count 4 = 999
            """);
        edge("round N: round 0 to 999", """
            cluster 'round 1000' wrong 6
            cluster 'round 999' = 1
            count 5 = 999
            cluster 'round 0' = 2
            count 5 = 0
            """);
        edge("A word is no number", """
            cluster 'round node' wrong 6
            cluster 'round round' wrong 6
            cluster 'window node' wrong 7
            cluster 'precision ;' wrong 10
            cluster 'node ahead node' wrong 11
            cluster 'node late off' wrong 10
            law 'late node' wrong 5
            law 'hold if even' wrong 5
            """);
        edge("Numbers are of 1 to 3 digits", """
            cluster 'node ahead 0007' wrong 11
            cluster 'window 0001' wrong 7
            cluster 'round 12345678901234567890' wrong 6
            cluster 'node ahead' wrong 10
            cluster 'node ahead x' wrong 11
            cluster 'node ahead 007 fast 09 flaky 00;window 001;round 000' = 1
            all 0 = 7 9 0 1 2 0 0 0 0 0 0
            count 3 = 1
            """);
    }

    private static void clusterWords() {
        edge("node and its parts, each once and in their order", """
            cluster 'node fast 1 ahead 2' wrong 12
            cluster 'node ahead 1 behind 2' wrong 13
            cluster 'node fast 1 slow 1' wrong 12
            cluster 'node flaky 1 fast 1' wrong 13
            cluster 'node torn 1 flaky 1' wrong 12
            cluster 'node late 1 silent' wrong 12
            cluster 'node active off' wrong 12
            """);
        edge("node and its parts, all of them and none", """
            cluster 'node off late 1' wrong 9
            cluster 'node node' wrong 5
            cluster 'node active window 3' wrong 12
            cluster 'node behind 1 slow 2 flaky 3 torn 4 active;node off' = 1
            all 0 = -1 -2 0 2 2 1 0 0 3 3 4
            all 1 = 0 0 0 0 3 0 0 0 0 0 0
            """);
        edge("between all there may be blanks (32), also ahead and behind", """
            cluster '   node   ahead  5  ;  window  9   ' = 1
            cluster 'node ahead5fast3flaky4late6off;node' = 2
            all 1 = 5 3 0 0 3 0 0 0 4 1 6
            count 0 = 3
            """);
        edge("Words are as long as a to z go on", """
            cluster 'nodeahead 5' wrong 0
            cluster 'node aheadfast 5' wrong 5
            cluster 'nodes' wrong 0
            cluster 'nodez' wrong 0
            cluster 'anode' wrong 0
            cluster 'n' wrong 0
            cluster 'Node' wrong 0
            cluster 'node ahead 1 2' wrong 13
            cluster 'node a head 1' wrong 5
            """);
        edge("Words are as long as a to z go on (A to Z are none of these)", """
            cluster 'nodeA' wrong 4
            cluster 'nodeZ' wrong 4
            cluster 'node Active' wrong 5
            law 'late 5 ifX' wrong 9
            law 'late 5 if evenA' wrong 14
            """);
        edge("blanks (32): no other byte is one", """
            cluster [110 111 100 101 9] wrong 4
            cluster [110 111 100 101 10] wrong 4
            cluster [110 111 100 101 0] wrong 4
            cluster [110 111 100 101 160] wrong 4
            cluster [31] wrong 0
            cluster [33] wrong 0
            cluster [255 110] wrong 0
            """);
        edge("words of a to z, digits of 0 to 9: not their neighbours", """
            cluster 'round 1`' wrong 7
            cluster [114 111 117 110 100 32 49 123] wrong 7
            cluster 'round 1/' wrong 7
            cluster 'round 1:' wrong 7
            cluster 'round 1@' wrong 7
            cluster 'round 1Z' wrong 7
            cluster 'round 9' = 1
            """);
        edge("The first wrong byte: the begin of the first thing that cannot stand there", """
            cluster ';' wrong 0
            cluster ' ;node' wrong 1
            cluster 'node;;node' wrong 5
            cluster 'node,node' wrong 4
            cluster '7' wrong 0
            cluster 'node 7' wrong 5
            cluster 'node ahead -5' wrong 11
            cluster 'node ahead 5;late 3' wrong 13
            """);
        edge("The first wrong byte: or the text's length, if more must come", """
            cluster 'node;' wrong 5
            cluster 'node;  ' wrong 7
            cluster 'node ahead  ' wrong 12
            cluster 'window' wrong 6
            cluster 'precision ' wrong 10
            cluster 'round' wrong 5
            cluster 'node late' wrong 9
            cluster 'node flaky' wrong 10
            """);
    }

    private static void lawLines() {
        edge("THE LAW: LINE { ; LINE }, at most 12", """
            cluster 'node'
            law '{12;late 9}' = 12
            count 2 = 12
            node 0 11 = 108
            law '{13;late 9}' wrong 84
            law '{12;late 9}; hold 3' wrong 85
            law '{12;late 9};' wrong 84
            node 0 11 = 108
            """);
        edge("THE LAW: a text, in place of the one before", """
            cluster 'node'
            count 2 = -1
            law 'late 3;hold 4;omit 5' = 3
            law 'late 7' = 1
            node 0 11 = 7
            node 0 12 = 0
            node 0 13 = 0
            law '' = 0
            node 0 11 = 0
            """);
        edge("THE LAW: N 0 to 99", """
            law 'late 100' wrong 5
            law 'omit 100' wrong 5
            law 'hold 100' wrong 5
            law 'late 0099' wrong 5
            cluster 'node'
            law 'late 99;omit 99;hold 99' = 3
            node 0 11 = 99
            node 0 12 = 99
            node 0 13 = 99
            law 'late 0;omit 0;hold 000' = 3
            node 0 11 = 0
            """);
        edge("HELD UP: the sum of N of all late LINES that hold, and N of its FAULT, if that is LATE", """
            cluster 'node late 99;node torn 99;node silent;node'
            law '{10;late 99};late 7 if node<2;late 5 if even' = 12
            each 11 = 1101 1002 995 995
            law 'omit 3;hold 4' = 2
            each 11 = 99 0 0 0
            """);
        edge("OMITS: FLAKY and the sum of N of all omit LINES that hold (100 at most; 100, if its FAULT is SILENT)", """
            cluster 'node flaky 50;node flaky 51;node flaky 49;node silent;node flaky 100;node'
            each 12 = 50 51 49 100 100 0
            law 'omit 30;omit 20' = 2
            each 12 = 100 100 99 100 100 50
            law 'late 9;omit 9 if node>4;hold 9' = 3
            each 12 = 50 51 49 100 100 9
            """);
        edge("HOLD: the sum of N of all hold LINES that hold", """
            cluster 'node;node'
            law '{11;hold 99};hold 5 if node>0' = 12
            each 13 = 1089 1094
            law 'late 4;omit 4' = 2
            each 13 = 0 0
            """);
        edge("law: IllegalArgumentException: the text is wrong (with none before, there is none)", """
            law 'late' wrong 4
            count 2 = -1
            cluster 'node' = 1
            node 0 11 = 0
            """);
    }

    private static void lawSums() {
        edge("SUM < SUM | SUM > SUM: as much is neither", """
            cluster 'node'
            law 'late 1 if 3<3;late 2 if 3<4;late 4 if 4<3' = 3
            node 0 11 = 2
            law 'late 1 if 3>3;late 2 if 4>3;late 4 if 3>4' = 3
            node 0 11 = 2
            """);
        edge("SUM: PART { + PART }", """
            cluster 'node'
            law 'late 1 if 1+2+3<7;late 2 if 1+2+3<6;late 4 if 5<1+2+3;late 8 if 6<1+2+3' = 4
            node 0 11 = 5
            law 'late 1 if 999+999>999+998;late 2 if 999+999>999+999' = 2
            node 0 11 = 1
            """);
        edge("a NUMBER is of 1 to 3 digits", """
            law 'late 1 if 1000>0' wrong 10
            law 'late 1 if 0000>0' wrong 10
            law 'late 1 if 0>1+1000' wrong 14
            cluster 'node'
            law 'late 1 if 999>998;late 2 if 000<001' = 2
            node 0 11 = 3
            """);
        edge("fast: DRIFT and RATE together, if that is above 0, else 0; slow: 0 less that, if it is below 0, else 0", """
            cluster 'node fast 9;node fast 1;node;node slow 1;node slow 9'
            law 'late 1 if fast<1;late 2 if fast>8;late 4 if slow<1;late 8 if slow>8' = 4
            each 11 = 6 4 5 1 9
            law 'late 1 if fast>0;late 2 if fast>9;late 4 if slow>0;late 8 if slow>9' = 4
            each 11 = 1 1 0 4 4
            """);
        edge("fast, slow: else 0, and not below 0", """
            cluster 'node slow 3;node fast 3;node'
            law 'late 1 if fast+9<9;late 2 if slow+9<9' = 2
            each 11 = 0 0 0
            law 'late 1 if fast+slow>2' = 1
            each 11 = 1 1 0
            """);
        edge("fast, slow: RATE, too", """
            cluster 'node slow 5 active;node ahead 40 active;round 1'
            rounds 1 = 0
            each 2 = 5 -5
            law 'late 1 if fast<1 and slow<1;late 2 if slow>4;late 4 if slow>5' = 3
            each 11 = 1 2
            """);
        edge("fast: RATE, too", """
            cluster 'node fast 2 active;node ahead 40 fast 5 active;round 1'
            rounds 1 = 0
            each 2 = 5 -5
            law 'late 1 if fast>6;late 2 if fast>7;late 4 if fast<1 and slow<1' = 3
            each 11 = 1 4
            """);
        edge("members: how many MEMBERS has", """
            cluster 'node active;node active;node'
            law 'late 1 if members>0;late 2 if members>1;late 4 if members>2' = 3
            each 11 = 1 1 0
            rounds 1 = 0
            each 5 = 3 3 5
            each 11 = 3 3 3
            rounds 1 = 0
            each 11 = 7 7 7
            """);
        edge("node, good, bad, wait", """
            cluster 'node silent active;node ahead 40 active;node ahead 45 active;node ahead 90 active'
            rounds 1 = 0
            each 6 = 2 3 3 3
            each 7 = 1 0 0 0
            law 'late 1 if good<3;late 2 if bad>0;late 4 if wait>3;late 8 if node>2' = 4
            each 11 = 3 0 4 12
            law 'late 1 if good>2;late 2 if bad<1;late 4 if wait<4;late 8 if node<1' = 4
            each 11 = 12 7 3 3
            """);
    }

    private static void lawConditions() {
        edge("even: ROUND is", """
            cluster 'node'
            law 'late 1 if even' = 1
            node 0 11 = 1
            rounds 1
            node 0 11 = 0
            cluster 'round 998'
            node 0 11 = 1
            cluster 'round 999'
            node 0 11 = 0
            """);
        edge("alone: no other one is ACTIVE (whatever it is itself)", """
            cluster 'node;node;node off'
            law 'late 1 if alone' = 1
            each 11 = 1 1 1
            cluster 'node active'
            each 11 = 0 0 0 1
            cluster 'node active'
            each 11 = 0 0 0 0 0
            power 3 false
            each 11 = 0 0 0 0 1
            power 4 false
            each 11 = 1 1 1 1 1
            """);
        edge("alone: one that is FROZEN is not ACTIVE", """
            cluster 'node active;node active;node active;node ahead 200 active;window 999'
            law 'late 1 if alone' = 1
            rounds 1 = 1
            power 0 false
            power 1 false
            each 3 = 0 0 2 3
            each 11 = 0 0 1 0
            """);
        edge("flaky: FLAKY is above 0", """
            cluster 'node flaky 0;node flaky 1;node;node flaky 100;node silent'
            law 'omit 50;late 1 if flaky' = 2
            each 11 = 0 1 0 1 0
            law 'late 1 if not flaky;late 2 if even and flaky;late 4 if flaky and alone' = 3
            each 11 = 1 6 1 6 1
            """);
        edge("C: ALL { or ALL }; ALL: ATOM { and ATOM }", """
            cluster 'node'
            law 'late 1 if 1>0 or 1>0 and 0>1;late 2 if (1>0 or 1>0) and 0>1' = 2
            node 0 11 = 1
            law 'late 1 if 0>1 and 0>1 or 1>0;late 2 if 0>1 and (0>1 or 1>0)' = 2
            node 0 11 = 1
            law 'late 1 if 0>1 or 0>1 or 1>0;late 2 if 1>0 and 1>0 and 0>1;late 4 if 0>1 or 0>1' = 3
            node 0 11 = 1
            """);
        edge("ATOM: not ATOM", """
            cluster 'node'
            law 'late 1 if not 0>1 and 0>1;late 2 if not(0>1 and 0>1);late 4 if not 1>0 or 1>0' = 3
            node 0 11 = 6
            law 'late 1 if not not even;late 2 if not not not even;late 4 if not alone' = 3
            node 0 11 = 1
            """);
        edge("late N [ if C ]: without C it holds", """
            cluster 'node;node'
            law 'late 5;omit 6;hold 7' = 3
            each 11 = 5 5
            each 12 = 6 6
            each 13 = 7 7
            law 'late 5 if 0>1;omit 6 if 0>1;hold 7 if 0>1;late 1' = 4
            each 11 = 1 1
            each 12 = 0 0
            each 13 = 0 0
            """);
    }

    private static void lawDepth() {
        edge("( and not within one another at most 6 deep", """
            cluster 'node'
            law 'late 1 if {6|(}1>0{6|)}' = 1
            node 0 11 = 1
            law 'late 2 if {6|not }1>0' = 1
            node 0 11 = 2
            law 'late 3 if {3|(not }0>1{3|)}' = 1
            node 0 11 = 3
            law 'late 4 if {5|not }(0>1)' = 1
            node 0 11 = 4
            """);
        edge("the ( or not that is a 7th one deep", """
            law 'late 1 if {7|(}1>0{7|)}' wrong 16
            law 'late 1 if {7|not }1>0' wrong 34
            law 'late 1 if {3|(not }(1>0{4|)}' wrong 25
            law 'late 1 if {3|(not }not 1>0{3|)}' wrong 25
            law 'late 1 if {6|(}1>0 or (' wrong 23
            law 'late 1 if {6|(}1>0 and not' wrong 24
            law 'late 1 if {9|(}' wrong 16
            """);
        edge("within one another: one behind another is none deeper", """
            cluster 'node'
            law 'late 1 if {6|(}1>0{6|)} and {6|(}1>0{6|)} or {6|not }1>0' = 1
            node 0 11 = 1
            law 'late 2 if {4|(}{2|(}1>0{2|)} and {2|not }1>0{4|)};late 4 if {6|(}1>0{6|)}' = 2
            node 0 11 = 6
            law 'late 1 if {5|(}1>0{5|)} and {6|(}(1>0' wrong 34
            """);
    }

    private static void lawWrong() {
        edge("of THE LAW the first wrong byte: a word that is none, or cannot stand there", """
            law 'soon 1' wrong 0
            law 'if even' wrong 0
            law 'node' wrong 0
            law 'late 5 even' wrong 7
            law 'late 5 omit 3' wrong 7
            law 'late 5;window 3' wrong 7
            law 'late 5 if off>3' wrong 10
            law 'late 5 if evenor alone' wrong 10
            """);
        edge("of THE LAW the first wrong byte: what cannot stand there", """
            law 'late 5 if 3=4' wrong 11
            law 'late 5 if 3<4<5' wrong 13
            law 'late 5 if even<3' wrong 14
            law 'late 5 if (3)<4' wrong 12
            law 'late 5 if ()' wrong 11
            law 'late 5 if even)' wrong 14
            law 'late 5 if 3 4<5' wrong 12
            law 'late 5 if 3+even<5' wrong 12
            """);
        edge("of THE LAW: or the text's length, if more must come", """
            law 'late' wrong 4
            law 'late 5 if' wrong 9
            law 'late 5 if 3' wrong 11
            law 'late 5 if 3<' wrong 12
            law 'late 5 if 3+ ' wrong 13
            law 'late 5 if (even' wrong 15
            law 'late 5 if even and' wrong 18
            law 'late 5 if not ' wrong 14
            """);
        edge("of THE LAW: or the text's length, if a LINE must come", """
            law 'late 5;' wrong 7
            law 'late 5; ' wrong 8
            law ';' wrong 0
            law ' ;late 5' wrong 1
            law 'late 5;;late 5' wrong 7
            law 'late 5 if even or' wrong 17
            law 'late 5 if even or or even' wrong 18
            law 'late 5 if 3<4+' wrong 14
            """);
        edge("of THE LAW: as long a text as the TAPE has", """
            cluster 'node'
            law 'late 9 if {193+1}<194;' wrong 400
            law '{5| }late 9 if {190+1}<191{5| }' = 1
            node 0 11 = 9
            law 'late 8 if {193+1}<194' = 1
            node 0 11 = 8
            law 'late 7 if {193+1}<193' = 1
            node 0 11 = 0
            law 'late 7{393| };' wrong 400
            """);
    }

    private static void fault() {
        edge("fault: NONE ahead of any", """
            fault = -1
            mid [1 2 3]
            fault = -1
            """);
        edge("fault: the first wrong byte of the latest text that was read; NONE without one", """
            cluster 'node x' wrong 5
            fault = 5
            law 'late 5' = 1
            fault = -1
            law 'late 5 if' wrong 9
            cluster '' = 1
            fault = -1
            cluster '' = 2
            law '  ' = 0
            fault = -1
            """);
        edge("fault: calls that read no text leave it", """
            cluster 'x' wrong 0
            mid [21*128] ! Argument
            read false [1] ! Argument
            blame [1] ! Argument
            add 0 = 0
            set 0 1000 ! Argument
            undo = true
            image
            back = true
            fault = 0
            """);
    }
}
