/**
 * Pairs of machines that agree on all short words: the least word that just one of them accepts
 * has so many letters. They were looked for by a search that is not part of the project.
 */
enum LongWords {
    TWENTY_NINE(29, 573654596, false, true, """
            arrows 0 000 012 013 014 102 110 113 210 212 214
            arrows 0 301 310 312 404 411
            ends 0 29 23
            arrows 1 000 012 013 014 102 110 112 113 210 212
            arrows 1 214 301 302 310 311 404 411
            ends 1 25 23
            """),
    TWENTY_NINE_TOO(29, 1000823995, false, true, """
            arrows 0 001 002 010 103 104 111 200 213 300 302
            arrows 0 314 401 403
            ends 0 31 23
            arrows 1 001 002 010 103 104 111 200 213 214 300
            arrows 1 302 314 401 403
            ends 1 31 31
            """),
    THIRTY(30, -1, true, false, """
            arrows 0 000 004 011 014 110 111 113 114 201 210
            arrows 0 212 213 300 311 312 403 413
            ends 0 31 31
            arrows 1 000 004 011 014 110 111 113 114 201 210
            arrows 1 212 213 300 312 403 413
            ends 1 29 31
            """),
    THIRTY_ONE(31, -1, true, false, """
            arrows 0 001 004 012 100 203 213 214 301 312 314
            arrows 0 402 403 410 414
            ends 0 19 14
            arrows 1 001 004 012 100 203 212 213 214 301 312
            arrows 1 314 402 410 414
            ends 1 23 14
            """),
    THIRTY_SEVEN(37, -1, true, false, """
            arrows 0 000 004 011 111 113 114 200 202 210 302
            arrows 0 303 312 403 411 414
            ends 0 31 31
            arrows 1 000 004 011 113 114 200 202 210 302 303
            arrows 1 312 403 411 414
            ends 1 15 31
            """);

    final int letters;
    final int difference;
    final boolean zeroCovers;
    final boolean oneCovers;
    final String lines;

    LongWords(int letters, int difference, boolean zeroCovers, boolean oneCovers, String lines) {
        this.letters = letters;
        this.difference = difference;
        this.zeroCovers = zeroCovers;
        this.oneCovers = oneCovers;
        this.lines = lines;
    }
}
