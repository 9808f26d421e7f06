/** The document's words for numbers. A STATIC member is SHARED here, since STATIC is an OP too. */
interface Words {
    int CLASS = 0, ABSTRACT = 1, FACE = 2;
    int PLAIN = 0, BARE = 1, SHARED = 2, PRIVATE = 3, START = 4;
    int NEW = 0, CALL = 1, UP = 2, STATIC = 3, THREAD = 4, PUT = 5, OUT = 6, ANY = 7;
    int NONE = -1, MISSING = -2, UNLIKE = -3, WITHOUT_BODY = -4, CLASH = -5;
    int UNKNOWN = -101, OUTSIDE = -102, STATE = -103, ROOM = -104;
    int LEAST = Integer.MIN_VALUE, GREATEST = Integer.MAX_VALUE;
}
