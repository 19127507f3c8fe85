/** The example of README.md, line by line; ReadmeTest holds the two together. */
final class ReadmeExample {
    private ReadmeExample() {
    }

    static void run() {
        // example
        SegmentReader reader = new SegmentReader();
        reader.give(0xFFD8L, 2);                     // the beginning
        reader.give(0xFFDB004300L, 5);               // QUANTISERS: table 0, 64 values of 1
        for (int k = 0; k < 8; k++) {
            reader.give(0x0101010101010101L, 8);
        }
        for (int table = 0; table <= 16; table += 16) {
            reader.give(0xFFC40014L, 4);             // WORDS: a DC table, then an AC table
            reader.give(table, 1);
            reader.give(1L, 1);                      // one word of 1 bit, none longer, symbol 0
            reader.give(0L, 8);
            reader.give(0L, 8);
        }
        reader.give(0xFFC0000B08L, 5);               // FRAME, sequential: 16 lines of 24,
        reader.give(0x0010001801L, 5);               // one component, of the name 1
        reader.give(0x011100L, 3);
        reader.give(0xFFDA000801010000L, 8);         // SCAN of that component
        reader.give(0x3F00L, 2);
        reader.give(0x12FF0034L, 4);                 // its DATA
        reader.give(0xFFD9L, 2);                     // the end

        System.out.println(reader.read());           // 0: it is a FILE
        System.out.println(reader.look(3));          // 5 SEGMENTS
        System.out.println(reader.segment(3, 0));    // 192, the CODE of SEGMENT 3: a FRAME
        System.out.println(reader.frame(1));         // 24, its WIDTH
        System.out.println(reader.frame(2));         // 16, its HEIGHT
        System.out.println(reader.component(0, 0));  // 1, the name of its component 0
        System.out.println(reader.scan(0, 5));       // 138, where the DATA of SCAN 0 begin
        System.out.println(reader.scan(0, 6));       // 4 bytes in the INPUT, the 0 behind 255 among them
        System.out.println(reader.data(0, 0));       // 18
        System.out.println(reader.data(0, 1));       // 255
        System.out.println(reader.data(0, 2));       // 52
        System.out.println(reader.data(0, 3));       // -1: NONE
        System.out.println(reader.quantiser(0, 63)); // 1
        System.out.println(reader.word(16, 0, 1));   // 1 word of 1 bit in the AC table 0
        System.out.println(reader.look(6));          // 144, where the FILE ends

        reader.wipe();                               // the next one
        reader.give(0xFFD8FFE00001L, 6);
        System.out.println(reader.read());           // 5: a LENGTH below 2
        System.out.println(reader.look(2));          // 4, its place
        System.out.println(reader.frame(1));         // -1: NONE
        // example
    }
}
