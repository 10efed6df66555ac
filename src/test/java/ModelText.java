import java.util.ArrayList;
import java.util.List;
import java.util.regex.Matcher;
import java.util.regex.Pattern;

/** A text, cut into all its tokens first, then held against what may stand at each. */
final class ModelText {
    private static final Pattern TOKEN = Pattern.compile("[a-z]|[0-9]+|[,;]|.", Pattern.DOTALL);

    int fault, place, law;
    final List<int[]> tricks = new ArrayList<>();
    final List<int[]> cars = new ArrayList<>();

    private final List<String> tokens = new ArrayList<>();
    private final List<Integer> places = new ArrayList<>();
    private int at;

    /** Ends the reading at the first fault; never leaves this class. */
    private static final class Fault extends Exception {
        private static final long serialVersionUID = 1;
        final int number;

        Fault(int number) {
            this.number = number;
        }
    }

    ModelText(String text) {
        Matcher m = TOKEN.matcher(text);
        while (m.find()) {
            tokens.add(m.group());
            places.add(m.start());
        }
        tokens.add("");
        places.add(text.length());
        try {
            read();
        } catch (Fault f) {
            fault = f.number;
            place = places.get(at);
        }
    }

    private void read() throws Fault {
        sign("g");
        law = number(4, 12);
        sign(";");
        do {
            readTrick();
        } while (tokens.get(at).matches("[sbhmo]"));
        do {
            readCar();
        } while (!tokens.get(at).isEmpty());
    }

    private void readTrick() throws Fault {
        String sort = tokens.get(at);
        if (!sort.matches("[sbhmo]")) {
            throw new Fault(1);
        }
        if (tricks.size() == 5) {
            throw new Fault(3);
        }
        at++;
        int cell = number(0, law - 1);
        sign(",");
        int power = number(1, 9);
        sign(";");
        tricks.add(new int[] {sort.charAt(0), cell, power});
    }

    private void readCar() throws Fault {
        if (!tokens.get(at).equals("c")) {
            throw new Fault(1);
        }
        if (cars.size() == 6) {
            throw new Fault(3);
        }
        at++;
        int riders = number(1, 4);
        sign(",");
        int nerve = number(1, 60);
        sign(",");
        int pace = number(1, 3);
        sign(";");
        cars.add(new int[] {riders, nerve, pace});
    }

    private void sign(String wanted) throws Fault {
        if (!tokens.get(at).equals(wanted)) {
            throw new Fault(1);
        }
        at++;
    }

    private int number(int least, int most) throws Fault {
        String token = tokens.get(at);
        if (!token.matches("[0-9]{1,2}")) {
            throw new Fault(1);
        }
        int value = Integer.parseInt(token);
        if (value < least || value > most) {
            throw new Fault(2);
        }
        at++;
        return value;
    }
}
