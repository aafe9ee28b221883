/** Scenes that many tests begin with: nothing there, some of all, and all that can be there. */
final class Scenes {
    static final int NONE = -9;
    static final Scene EMPTY = Scene.start();
    static final Scene RICH = richBehind(Scene.start());
    static final Scene FULL = full();

    private Scenes() {
    }

    /** The right hand has 8 notes, the left one 6; its tie wants a seventh. Other calls may stand ahead. */
    static Scene richBehind(Scene ahead) {
        return ahead.keys(0, 24, 26, NONE, 28, 30, NONE, 25, 27, NONE, NONE, 24).with("put", 0, 29, 26)
            .keys(1, 24, 30, 40, 20, NONE, 22).with("put", 1, 29, 19)
            .with("mark", 0, 1, 2).with("mark", 0, 6, 1).with("mark", 1, 0, 1).with("mark", 1, 29, 5)
            .with("tie", 0, 0, 4, 2).with("tie", 1, 0, 6, 1)
            .with("phrase", 3, 0, 0, 2).with("phrase", 25, 1, 3, 2).with("phrase", 0, 0, 28, 12)
            .with("price", 3, 9).with("reach", 2, 3, 1, 3, 5);
    }

    /** A key at every moment of both hands, and as many phrases as there can be. */
    private static Scene full() {
        Scene scene = Scene.start();
        for (int m = 0; m < 30; m++) {
            scene = scene.with("put", 0, m, 24 + m % 15).with("put", 1, m, 40 - m);
        }
        return scene.with("mark", 0, 0, 1).with("mark", 1, 29, 2)
            .with("tie", 0, 0, 15, 15).with("tie", 1, 14, 29, 1)
            .with("phrase", 0, 0, 0, 12).with("phrase", 25, 1, 0, 2).with("phrase", 7, 1, 28, 2)
            .with("phrase", 8, 0, 3, 5).with("phrase", 9, 0, 20, 12).with("phrase", 10, 1, 10, 12);
    }

    /** The right hand has one key at all moments. */
    static Scene same(int key) {
        Scene scene = Scene.start();
        for (int m = 0; m < 30; m++) {
            scene = scene.with("put", 0, m, key);
        }
        return scene;
    }
}
