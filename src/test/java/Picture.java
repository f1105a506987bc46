/** All that can be asked of an object without changing it, as a text: two pictures are alike if nothing has changed. */
final class Picture {
  private final FetchOrder x;
  private final StringBuilder all = new StringBuilder();
  private final int functions;
  private final int blocks;
  private final int arcs;

  private Picture(FetchOrder x) {
    this.x = x;
    functions = x.many(0);
    blocks = x.many(1);
    arcs = x.many(2);
  }

  static String of(FetchOrder x) {
    Picture p = new Picture(x);
    p.whatThereIs();
    for (int how = 0; how < 5; how++) {
      p.order(how);
    }
    p.onPaper();
    return p.all.toString();
  }

  private void tell(int answer) {
    all.append(answer).append('/').append(x.status()).append(' ');
  }

  private void whatThereIs() {
    all.append(x.fault(0)).append(',').append(x.fault(1)).append(' ');
    for (int what = 0; what <= 9; what++) {
      tell(x.many(what));
    }
    for (int f = 0; f < functions; f++) {
      for (int what = 0; what < 8; what++) {
        tell(x.function(f, what));
      }
      for (int other = 0; other < functions; other++) {
        tell(x.weight(f, other));
      }
      tell(x.least(f));
    }
    for (int b = 0; b < blocks; b++) {
      for (int what = 0; what < 10; what++) {
        tell(x.block(b, what));
      }
    }
    for (int a = 0; a < arcs; a++) {
      for (int what = 0; what < 5; what++) {
        tell(x.arc(a, what));
      }
    }
  }

  private void order(int how) {
    for (int b = 0; b < blocks; b++) {
      tell(x.order(how, b));
      for (int what = 0; what < 5; what++) {
        tell(x.place(how, b, what));
      }
    }
    for (int a = 0; a < arcs; a++) {
      tell(x.falls(how, a));
    }
    for (int what = 0; what < 6; what++) {
      tell(x.cost(how, what));
    }
    for (int f = 0; f < functions; f++) {
      tell(x.jumps(how, f));
      for (int what = 0; what < 4; what++) {
        tell(x.run(how, f, 60, 7, what));
      }
    }
  }

  private void onPaper() {
    for (int what = 0; what < 3; what++) {
      tell(x.best(what));
    }
    for (int b = 0; b < blocks; b++) {
      tell(x.moved(b, 0));
      tell(x.moved(b, blocks - 1));
    }
  }
}
