import java.nio.charset.StandardCharsets;
import java.util.Arrays;

/** A plain model of the whole face, for tests: what is in hand, and what each call answers. Exceptions are told by Check's numbers. */
public final class HouseModel {
    private byte[] waiting = new byte[20];
    private byte[] text = new byte[0];
    private final byte[][] files = new byte[6][0];
    private byte[] image = new byte[0];
    private int fault;
    private int faultPlace = -1;
    private LinkerModel.Unit checked;
    private int checkPlace = -1;
    private final int[] linked = {0, -1, -1, 0, 0};
    private LinkerModel known;
    private int loadPlace = -1;
    public MachineModel machine = new MachineModel();
    private String out = "";

    private static boolean unit(int k) {
        return k >= 0 && k < 6;
    }

    private byte[] file(int k) {
        return k == -1 ? image : unit(k) ? files[k] : null;
    }

    private void file(int k, byte[] bytes) {
        if (k == -1) {
            image = bytes;
        } else {
            files[k] = bytes;
        }
    }

    private static byte[] joined(byte[] a, byte[] b, int n) {
        byte[] all = Arrays.copyOf(a, a.length + n);
        System.arraycopy(b, 0, all, a.length, n);
        return all;
    }

    private static byte[] highest(long eight) {
        byte[] b = new byte[8];
        for (int k = 0; k < 8; k++) {
            b[k] = (byte) (eight >>> 56 - 8 * k);
        }
        return b;
    }

    public void feed(int... five) {
        for (int k = 0; k < 20; k++) {
            waiting[k] = (byte) (five[k / 4] >>> 24 - 8 * (k % 4));
        }
    }

    public int end(int n) {
        if (n < 0 || n > 20 || text.length + n > 3000) {
            return -1;
        }
        text = joined(text, waiting, n);
        waiting = new byte[20];
        return text.length;
    }

    public int assemble(int u) {
        if (!unit(u)) {
            return Check.INDEX;
        }
        AssemblerModel model = new AssemblerModel(new String(text, StandardCharsets.ISO_8859_1));
        text = new byte[0];
        fault = 0;
        faultPlace = -1;
        try {
            model.assemble();
        } catch (AssemblerModel.Fault e) {
            fault = e.number;
            faultPlace = e.place;
            return Check.ARGUMENT;
        }
        files[u] = model.file();
        return files[u].length;
    }

    public int fault(int what) {
        return what == 0 ? fault : what == 1 ? faultPlace : -1;
    }

    public int take(int u) {
        if (!unit(u)) {
            return Check.INDEX;
        }
        files[u] = text;
        text = new byte[0];
        return files[u].length;
    }

    public int extend(int k, int n, long eight) {
        byte[] f = file(k);
        if (f == null || n < 1 || n > 8 || f.length + n > (k == -1 ? 16384 : 8192)) {
            return 0;
        }
        file(k, joined(f, highest(eight), n));
        return 1;
    }

    public int cut(int k, int n) {
        byte[] f = file(k);
        if (f == null || n < 0 || n > f.length) {
            return 0;
        }
        file(k, Arrays.copyOf(f, n));
        return 1;
    }

    public int spoil(int k, int i, int b) {
        byte[] f = file(k);
        if (f == null || i < 0 || i >= f.length) {
            return -1;
        }
        int was = f[i] & 255;
        f[i] = (byte) b;
        return was;
    }

    public int size(int k) {
        byte[] f = file(k);
        return f == null ? -1 : f.length;
    }

    public int byteAt(int k, int i) {
        byte[] f = file(k);
        return f == null || i < 0 || i >= f.length ? -1 : f[i] & 255;
    }

    public int check(int u) {
        if (!unit(u)) {
            return Check.INDEX;
        }
        FilesModel model = new FilesModel(files[u]);
        int bad = model.readObject();
        checkPlace = model.place;
        if (bad == 0) {
            checked = LinkerModel.parse(files[u]);
        }
        return bad;
    }

    public int object(int list, int k, int what) {
        if (list == 5) {
            return what == 0 ? checkPlace : -1;
        }
        if (checked == null) {
            return list == 0 && k >= 0 && k < 4 && (what == 0 || what == 1) ? what : list == 4 && what >= 0 && what < 4 ? 0 : -1;
        }
        return checked.told(list, k, what);
    }

    public int link(int set, boolean shrinks) {
        if (set < 1 || set > 63) {
            return Check.ARGUMENT;
        }
        LinkerModel model = new LinkerModel(files, set, shrinks);
        linked[0] = model.fault;
        linked[1] = model.unit;
        linked[2] = model.number;
        if (model.fault != 0) {
            return Check.STATE;
        }
        linked[3] = model.fixed;
        linked[4] = model.saved;
        known = model;
        image = model.file.clone();
        return image.length;
    }

    public int linked(int what) {
        return what >= 0 && what < 5 ? linked[what] : -1;
    }

    public int where(long first, long second) {
        StringBuilder name = new StringBuilder();
        for (long half : new long[] {first, second}) {
            for (byte b : highest(half)) {
                if (b != 0) {
                    name.append((char) (b & 255));
                }
            }
        }
        return known != null && known.knows(name.toString()) ? known.where(name.toString()) : Check.ELEMENT;
    }

    public int load() {
        FilesModel model = new FilesModel(image);
        int bad = model.readImage();
        loadPlace = model.place;
        if (bad == 0) {
            machine = new MachineModel(image);
        }
        return bad;
    }

    /** What THE SUM of an IMAGE should be whose latest load() had FAULT 29. */
    public long rightSum() {
        FilesModel model = new FilesModel(image);
        model.readImage();
        return model.rightSum;
    }

    public int place() {
        return loadPlace;
    }

    public int step() {
        machine.step();
        return machine.state;
    }

    public int tell(int at) {
        String text = machine.text(at);
        if (text == null) {
            return -1;
        }
        out = text;
        return out.length();
    }

    public int letter(int k) {
        return k >= 0 && k < out.length() ? out.charAt(k) : -1;
    }
}
