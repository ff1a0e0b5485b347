import java.util.Random;

/** Draws texts: mostly such as can be laid, else with some letter or number off. */
final class Texts {
    private final Random random;
    private final StringBuilder text = new StringBuilder();
    private int persons = 0;
    private int names = 0;

    Texts(Random random) {
        this.random = random;
    }

    String draw() {
        int manyPersons = 1 + random.nextInt(6);
        int manyNames = 1 + random.nextInt(8);
        boolean few = random.nextBoolean();
        while (persons < manyPersons) {
            addPerson(few);
        }
        while (names < manyNames) {
            text.append('n').append(number(20)).append(',').append(number(9)).append(';');
            names++;
        }
        int words = random.nextInt(14);
        // A crowd about one PERSON brings NAMES in one another's way.
        int butt = random.nextBoolean() ? random.nextInt(persons) : -1;
        for (int k = 0; k < words; k++) {
            addWord(butt);
        }
        if (random.nextBoolean()) {
            text.append('q').append(1 + random.nextInt(20)).append(';');
        }
        if (random.nextInt(6) == 0) {
            spoil();
        }
        return text.toString();
    }

    private void addPerson(boolean few) {
        text.append('p').append(random.nextInt(5)).append(',');
        text.append(few ? random.nextInt(3) : random.nextInt(6)).append(',');
        text.append(few ? random.nextInt(8) : number(30)).append(';');
        persons++;
    }

    private void addWord(int butt) {
        int i = random.nextInt(persons);
        int j = butt >= 0 && random.nextInt(4) > 0 ? butt : random.nextInt(persons);
        if (i != j) {
            text.append('c').append(i).append(',').append(j).append(',');
            text.append(random.nextInt(names)).append(';');
        }
    }

    private String number(int most) {
        int value = random.nextInt(most + 1);
        return value < 10 && random.nextInt(12) == 0 ? "0" + value : "" + value;
    }

    private void spoil() {
        String marks = "pncq0123456789,; x-~";
        int place = random.nextInt(text.length());
        char mark = marks.charAt(random.nextInt(marks.length()));
        switch (random.nextInt(3)) {
            case 0: text.setCharAt(place, mark); break;
            case 1: text.insert(place, mark); break;
            default: text.deleteCharAt(place); break;
        }
    }
}
