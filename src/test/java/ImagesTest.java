/** Promises 40 to 44: image, undo, tear, look, status. */
final class ImagesTest {
  public static void main(String[] args) {
    promise40Image();
    promise41Undo();
    promise41Anew();
    promise41NotTaken();
    promise42Tear();
    promise43Look();
    promise44Status();
    Due.end("ImagesTest");
  }

  private static ElderChest filled() {
    ElderChest x = Due.withElders(1, 2);
    Due.read(x, "may weigh 2");
    x.lock(0, false);
    x.lock(1, true);
    x.key(0, 0, true);
    x.key(1, 1, true);
    x.lend(0, 1, 0);
    return x;
  }

  private static void promise40Image() {
    ElderChest x = filled();
    Due.due("40: image()", x.image(), 1);
    Due.due("40: image() again", x.image(), 1);
    Due.due("40: nothing changed", x.look(4), 2);
    x.lock(2, false);
    Due.due("40: a later one takes its place", x.image(), 1);
    x.lock(3, false);
    Due.due("40: what was kept latest", x.undo(), 3);
    ElderChest y = new ElderChest();
    Due.due("40: of an empty one", y.image(), 1);
    y.elder(1);
    Due.due("40: back to that", y.undo(), 0);
    Due.due("40: without ELDERS", y.look(0), 0);
  }

  private static void promise41Undo() {
    ElderChest x = filled();
    Due.due("41: NONE", x.undo(), Due.NONE);
    x.image();
    for (int again = 0; again < 2; again++) {
      x.elder(5);
      x.gone(0, true);
      Due.read(x, "may weigh 3");
      x.use(1);
      x.box(0, 7);
      x.chain(2, 1, true);
      x.key(0, 0, false);
      x.key(0, 9, true);
      x.key(2, 9, true);
      x.lend(0, 1, 9);
      x.lend(0, 2, 9);
      x.key(1, 1, false);
      x.key(1, 5, true);
      x.lend(1, 0, 5);
      Due.due("41: undo()", x.undo(), 2);
      stateIsFilled(x);
    }
    Due.due("41: it stays", x.undo(), 2);
  }

  private static void stateIsFilled(ElderChest x) {
    long[] looks = {2, 2, 1, 0, 2, 1, 0};
    for (int what = 0; what < looks.length; what++) {
      Due.due("41: look(" + what + ")", x.look(what), looks[what]);
    }
    long[][] elders = {{1, 0, 1, 1, 0}, {2, 0, 2, 1, 1}};
    for (int elder = 0; elder < 2; elder++) {
      for (int what = 0; what < 5; what++) {
        Due.due("41: of(" + elder + ", " + what + ")", x.of(elder, what), elders[elder][what]);
      }
    }
    Due.due("41: of(2, 0)", x.of(2, 0), Due.BEYOND);
    Due.due("41: hanging(2, 0)", x.hanging(2, 0), Due.BEYOND);
    Due.due("41: hanging(1, 0)", x.hanging(1, 0), 5);
    Due.due("41: may(0, 2)", x.may(0, 2), 1);
    Due.due("41: may(0, 1)", x.may(0, 1), 0);
    Due.due("41: may(1, 0)", x.may(1, 0), Due.BEYOND);
    Due.due("41: least(0)", x.least(0), 2);
    Due.due("41: lets(0, 0)", x.lets(0, 0), 1);
    Due.due("41: opens(1, 2)", x.opens(1, 2), 1);
    Due.due("41: could(0): KEY 0 was lent to 1", x.could(0), 3);
    int nine = x.lock(9, false);
    Due.due("41: could(2): KEY 9 was lent to none", x.could(nine), 0);
    Due.due("41: a HANGING that came since goes", x.undo(), 2);
  }

  /** What comes at the place of something undone knows nothing of that. */
  private static void promise41Anew() {
    ElderChest x = new ElderChest();
    x.image();
    x.elder(9);
    x.elder(9);
    Due.giveKeys(x, 0, 1, 2, 3);
    x.gone(1, true);
    x.lend(0, 1, 2);
    Due.read(x, "may weigh 9");
    x.lock(5, true);
    Due.due("41: back to nothing", x.undo(), 0);
    Due.due("41: without THE TEXT", x.look(3), -1);
    Due.due("41: STATE", x.least(-1), Due.STATE);
    Due.due("41: nothing was lent", x.look(5), 0);
    Due.due("41: a new ELDER", x.elder(1), 0);
    Due.due("41: another one", x.elder(2), 1);
    long[][] elders = {{1, 0, 0, 0, 0}, {2, 0, 0, 0, 0}};
    for (int elder = 0; elder < 2; elder++) {
      for (int what = 0; what < 5; what++) {
        Due.due("41: new of(" + elder + ", " + what + ")", x.of(elder, what),
            elders[elder][what]);
      }
    }
    Due.due("41: a new TEXT", Due.read(x, "may weigh 1"), 0);
    Due.due("41: it is THE TEXT", x.look(3), 0);
    Due.due("41: by it", x.least(-1), 2);
    Due.due("41: a new LOCK", x.lock(1, false), 0);
    Due.due("41: its COST", x.hanging(0, 4), 3);
    Due.due("41: could(0)", x.could(0), 0);
    Due.due("41: undo() once more", x.undo(), 0);
  }

  private static void promise41NotTaken() {
    ElderChest x = filled();
    x.sheet(0, 8, 1);
    Due.feed(x, "may");
    x.image();
    Due.feed(x, " weigh 1");
    x.write(0, 0, 5);
    x.sheet(1, 64, 2);
    x.elder(77);
    Due.due("41: undo()", x.undo(), 2);
    Due.due("41: THE TAPE isn't kept", x.look(6), 11);
    Due.due("41: it is as it was fed", x.text(), 1);
    Due.due("41: sheets aren't kept", x.write(0, 0, 0), 5);
    Due.due("41: a sheet that came later stays", x.write(1, 1, 0), 0);
    Due.due("41: nor are findings taken back", x.status(-1), 1);
  }

  private static void promise42Tear() {
    ElderChest x = filled();
    Due.due("42: nothing is kept", x.tear(), 0);
    x.image();
    Due.due("42: something was", x.tear(), 1);
    Due.due("42: not again", x.tear(), 0);
    Due.due("42: undo() then", x.undo(), Due.NONE);
    Due.due("42: what is there stays", x.look(4), 2);
    x.image();
    x.lock(9, false);
    Due.due("42: kept anew", x.undo(), 2);
    Due.due("42: torn anew", x.tear(), 1);
    Due.due("42: one finding", x.status(-1), 1);
  }

  private static void promise43Look() {
    ElderChest x = Due.withElders(1, 2, 3);
    x.gone(1, true);
    for (int i = 0; i < 4; i++) {
      Due.read(x, "may weigh 2");
    }
    x.use(2);
    for (int i = 0; i < 5; i++) {
      x.lock(0, false);
    }
    x.key(0, 0, true);
    for (int i = 0; i < 6; i++) {
      x.lend(0, 1, 0);
    }
    Due.feed(x, "may any");
    long[] looks = {3, 2, 4, 2, 5, 6, 7};
    for (int what = 0; what < looks.length; what++) {
      Due.due("43: look(" + what + ")", x.look(what), looks[what]);
    }
    for (int what : new int[] {-1, 7, Integer.MIN_VALUE, Integer.MAX_VALUE}) {
      Due.due("43: look(" + what + ")", x.look(what), Due.BEYOND);
    }
    Due.due("43: counted", x.status(0), 4);
  }

  private static void promise44Status() {
    ElderChest x = new ElderChest();
    for (int which = -1; which < 7; which++) {
      Due.due("44: status(" + which + ") at first", x.status(which), 0);
    }
    x.elder(10);
    for (int i = 0; i < 12; i++) {
      x.elder(0);
    }
    x.lock(0, false);
    for (int i = 0; i < 3; i++) {
      x.as(0, 2);
    }
    for (int i = 0; i < 4; i++) {
      x.undo();
    }
    for (int i = 0; i < 5; i++) {
      x.more();
    }
    for (int i = 0; i < 6; i++) {
      x.write(0, 0, 0);
    }
    for (int i = 0; i < 7; i++) {
      x.sheet(0, 8, -1);
    }
    for (int which = 0; which < 7; which++) {
      Due.due("44: status(" + which + ")", x.status(which), which + 1);
    }
    Due.due("44: status(-1)", x.status(-1), 28);
    Due.due("44: status(7)", x.status(7), Due.BEYOND);
    Due.due("44: it counts", x.status(0), 2);
    Due.due("44: status(-2)", x.status(-2), Due.BEYOND);
    Due.due("44: status(MAX)", x.status(Integer.MAX_VALUE), Due.BEYOND);
    Due.due("44: status(MIN)", x.status(Integer.MIN_VALUE), Due.BEYOND);
    Due.due("44: they count", x.status(-1), 32);
    x.image();
    x.undo();
    Due.due("44: undo() takes none back", x.status(-1), 32);
    Due.due("44: a FAULT counts not", x.text(), -1);
    Due.due("44: they are as many", x.status(-1), 32);
  }
}
