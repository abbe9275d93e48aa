/** The calls of the document, so that the class and its model can be asked by the same tests. */
interface Face {
    boolean put(int x, int y, boolean on);

    int thin();

    boolean at(int x, int y);

    int prune(int length);

    int strokes();

    int points(int stroke);

    int place(int stroke, int k, int axis);

    long distance2(int x, int y);

    int crossing(int k, int what);

    int joined(int stroke);

    int parts();

    int holes();

    int draw();

    int told(int what);

    void clear();
}
