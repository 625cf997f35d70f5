import java.io.DataInputStream;
import java.io.IOException;
import java.io.InputStream;
import java.util.ArrayList;
import java.util.List;

/** A compiled class, as its class file tells it: fields, methods, and what these call and make. */
final class Compiled {
    /** A field: its name, its type as the class file writes it, and how it is (static, final, ..). */
    record Member(String name, String type, int how) { }

    /** A method: "Owner.name(types)", what it calls (likewise), what it makes, and other orders of it. */
    record Body(String name, List<String> calls, List<String> makes, List<Integer> orders, int caught) { }

    final String name;
    final List<Member> fields = new ArrayList<>();
    final List<Body> bodies = new ArrayList<>();
    private Object[] pool;
    private int[] first;
    private int[] second;

    Compiled(Class<?> of) throws IOException {
        name = of.getName();
        try (InputStream file = of.getResourceAsStream(of.getName() + ".class");
                DataInputStream in = new DataInputStream(file)) {
            in.skipBytes(8);
            readPool(in);
            in.skipBytes(6);
            in.skipBytes(2 * in.readUnsignedShort());
            readMembers(in, false);
            readMembers(in, true);
        }
    }

    private void readPool(DataInputStream in) throws IOException {
        int count = in.readUnsignedShort();
        pool = new Object[count];
        first = new int[count];
        second = new int[count];
        for (int k = 1; k < count; k++) {
            int tag = in.readUnsignedByte();
            switch (tag) {
                case 1 -> pool[k] = in.readUTF();
                case 3, 4 -> in.skipBytes(4);
                case 5, 6 -> {
                    in.skipBytes(8);
                    k++;
                }
                case 7, 8, 16, 19, 20 -> first[k] = in.readUnsignedShort();
                case 15 -> in.skipBytes(3);
                case 9, 10, 11, 12, 17, 18 -> {
                    first[k] = in.readUnsignedShort();
                    second[k] = in.readUnsignedShort();
                }
                default -> throw new IOException("tag " + tag);
            }
        }
    }

    private String text(int k) {
        return (String) pool[k];
    }

    /** "Owner.name(types)" of a method that is called. */
    private String called(int k) {
        int both = second[k];
        return text(first[first[k]]) + "." + text(first[both]) + text(second[both]);
    }

    private void readMembers(DataInputStream in, boolean methods) throws IOException {
        int count = in.readUnsignedShort();
        for (int k = 0; k < count; k++) {
            int how = in.readUnsignedShort();
            String member = text(in.readUnsignedShort());
            String type = text(in.readUnsignedShort());
            if (!methods) {
                fields.add(new Member(member, type, how));
            }
            int more = in.readUnsignedShort();
            for (int i = 0; i < more; i++) {
                String kind = text(in.readUnsignedShort());
                byte[] told = new byte[in.readInt()];
                in.readFully(told);
                if (kind.equals("Code")) {
                    bodies.add(body(name + "." + member + type, told));
                }
            }
        }
    }

    private Body body(String method, byte[] told) {
        int end = 8 + four(told, 4);
        Body body = new Body(method, new ArrayList<>(), new ArrayList<>(), new ArrayList<>(), two(told, end));
        int at = 8;
        while (at < end) {
            int order = told[at] & 255;
            body.orders().add(order);
            if (order >= 182 && order <= 185) {
                body.calls().add(called(two(told, at + 1)));
            } else if (order == 187 || order == 189 || order == 197) {
                body.makes().add(text(first[two(told, at + 1)]));
            } else if (order == 188) {
                body.makes().add("array of sort " + told[at + 1]);
            }
            at += width(told, at, order);
        }
        return body;
    }

    /** How many bytes an order takes. */
    private static int width(byte[] told, int at, int order) {
        int table = (at - 8 | 3) + 1 + 8;
        if (order == 170) {
            return table + 12 + 4 * (four(told, table + 8) - four(told, table + 4) + 1) - at;
        }
        if (order == 171) {
            return table + 8 + 8 * four(told, table + 4) - at;
        }
        if (order == 196) {
            return (told[at + 1] & 255) == 132 ? 6 : 4;
        }
        if (order == 185 || order == 186 || order == 200 || order == 201) {
            return 5;
        }
        if (order == 197) {
            return 4;
        }
        boolean three = order == 17 || order == 19 || order == 20 || order == 132 || order >= 153 && order <= 168
                || order >= 178 && order <= 184 || order == 187 || order == 189 || order == 192 || order == 193
                || order == 198 || order == 199;
        boolean two = order == 16 || order == 18 || order >= 21 && order <= 25 || order >= 54 && order <= 58
                || order == 169 || order == 188;
        return three ? 3 : two ? 2 : 1;
    }

    private static int two(byte[] told, int at) {
        return (told[at] & 255) << 8 | told[at + 1] & 255;
    }

    private static int four(byte[] told, int at) {
        return two(told, at) << 16 | two(told, at + 2);
    }
}
