import java.io.DataInputStream;
import java.io.IOException;
import java.io.InputStream;
import java.util.ArrayList;
import java.util.List;
import java.util.Set;
import java.util.TreeSet;

/** What the compiler made of a class: its methods, and what these call and make. */
final class ClassFile {
  /** One method, by the name of its class, its own and its descriptor. */
  static final class Code {
    String name = "";
    int parameters;
    final List<String> calls = new ArrayList<>();
    final Set<Integer> instructions = new TreeSet<>();
    int handlers;
  }

  private static final int WIDE = 0xc4;
  private static final int TABLE_SWITCH = 0xaa;
  private static final int LOOKUP_SWITCH = 0xab;
  private static final int IINC = 0x84;

  final String name;
  final List<Code> methods = new ArrayList<>();
  final Set<String> classes = new TreeSet<>();
  final Set<String> descriptors = new TreeSet<>();
  private final Object[] constants;

  private ClassFile(DataInputStream in) throws IOException {
    in.readInt();
    in.readInt();
    constants = new Object[in.readUnsignedShort()];
    readConstants(in);
    in.readUnsignedShort();
    name = className(in.readUnsignedShort());
    in.readUnsignedShort();
    in.skipBytes(2 * in.readUnsignedShort());
    readMembers(in, false);
    readMembers(in, true);
    for (Object constant : constants) {
      if (constant instanceof int[] && ((int[]) constant)[0] == 7) {
        classes.add(text(((int[]) constant)[1]));
      }
    }
  }

  static ClassFile of(Class<?> one) throws IOException {
    String file = one.getName() + ".class";
    try (InputStream in = one.getClassLoader().getResourceAsStream(file)) {
      return new ClassFile(new DataInputStream(in));
    }
  }

  private void readConstants(DataInputStream in) throws IOException {
    for (int k = 1; k < constants.length; k++) {
      int tag = in.readUnsignedByte();
      switch (tag) {
        case 1: constants[k] = in.readUTF(); break;
        case 3: case 4: in.readInt(); break;
        case 5: case 6:
          in.readLong();
          k++;
          break;
        case 7: case 8: case 16: case 19: case 20:
          constants[k] = new int[] {tag, in.readUnsignedShort()};
          break;
        case 15:
          in.readUnsignedByte();
          in.readUnsignedShort();
          break;
        default:
          constants[k] = new int[] {tag, in.readUnsignedShort(), in.readUnsignedShort()};
          break;
      }
    }
  }

  private String text(int index) {
    return (String) constants[index];
  }

  private String className(int index) {
    return text(((int[]) constants[index])[1]);
  }

  /** The member that an instruction names, as "Class.name(types)type". */
  private String member(int index) {
    int[] reference = (int[]) constants[index];
    int[] nameAndType = (int[]) constants[reference[2]];
    return className(reference[1]) + "." + text(nameAndType[1]) + text(nameAndType[2]);
  }

  private void readMembers(DataInputStream in, boolean areMethods) throws IOException {
    int members = in.readUnsignedShort();
    for (int k = 0; k < members; k++) {
      in.readUnsignedShort();
      String own = text(in.readUnsignedShort());
      String descriptor = text(in.readUnsignedShort());
      descriptors.add(descriptor);
      Code code = new Code();
      code.name = name + "." + own + descriptor;
      int attributes = in.readUnsignedShort();
      for (int a = 0; a < attributes; a++) {
        String attribute = text(in.readUnsignedShort());
        byte[] body = new byte[in.readInt()];
        in.readFully(body);
        if (attribute.equals("Code")) {
          readCode(body, code);
        }
      }
      if (areMethods) {
        code.parameters = parameters(descriptor);
        methods.add(code);
      }
    }
  }

  private static int parameters(String descriptor) {
    String given = descriptor.substring(1, descriptor.indexOf(')'));
    return given.replaceAll("\\[*(L[^;]*;|[A-Z])", "x").length();
  }

  private static int unsigned(byte[] body, int at) {
    return (body[at] & 255) << 8 | body[at + 1] & 255;
  }

  private static int whole(byte[] body, int at) {
    return unsigned(body, at) << 16 | unsigned(body, at + 2);
  }

  private void readCode(byte[] body, Code code) {
    int start = 8;
    int end = start + whole(body, 4);
    for (int at = start; at < end; at += length(body, at, start)) {
      int instruction = body[at] & 255;
      code.instructions.add(instruction);
      if (instruction >= 0xb6 && instruction <= 0xb9) {
        code.calls.add(member(unsigned(body, at + 1)));
      }
    }
    code.handlers = unsigned(body, end);
  }

  private static int length(byte[] body, int at, int start) {
    int instruction = body[at] & 255;
    int behind = at + 1 + (3 - (at - start) % 4);
    if (instruction == TABLE_SWITCH) {
      return behind - at + 12 + 4 * (whole(body, behind + 8) - whole(body, behind + 4) + 1);
    }
    if (instruction == LOOKUP_SWITCH) {
      return behind - at + 8 + 8 * whole(body, behind + 4);
    }
    if (instruction == WIDE) {
      return (body[at + 1] & 255) == IINC ? 6 : 4;
    }
    return fixedLength(instruction);
  }

  private static int fixedLength(int i) {
    if (i == 0xb9 || i == 0xba || i == 0xc8 || i == 0xc9) {
      return 5;
    }
    if (i == 0xc5) {
      return 4;
    }
    if (i == 0x11 || i == 0x13 || i == 0x14 || i == IINC || i >= 0x99 && i <= 0xa8
        || i >= 0xb2 && i <= 0xb8 || i == 0xbb || i == 0xbd || i == 0xc0 || i == 0xc1
        || i == 0xc6 || i == 0xc7) {
      return 3;
    }
    boolean two = i == 0x10 || i == 0x12 || i >= 0x15 && i <= 0x19 || i >= 0x36 && i <= 0x3a
        || i == 0xa9 || i == 0xbc;
    return two ? 2 : 1;
  }
}
