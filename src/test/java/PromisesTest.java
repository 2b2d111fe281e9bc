import java.lang.reflect.InvocationTargetException;
import java.lang.reflect.Method;
import java.util.Arrays;
import java.util.Comparator;
import java.util.List;

/** Runs every test of every promise: each method that bears words of the document. */
public final class PromisesTest {
    static final List<Class<?>> PARTS = List.of(
            WhatItIs.class, Promise01.class, Promise02.class, Promise03.class,
            Promise04.class, Promise05.class, Promise06.class, Promise07.class, Promise08.class,
            Promise09.class, Promise10.class, Promise11.class, Promise12.class, Promise13.class,
            Promise14.class, Promise15.class, Promise16.class, Promise17.class);

    public static void main(String[] args) throws IllegalAccessException {
        Due due = new Due();
        for (Class<?> part : PARTS) {
            for (Method test : tests(part)) {
                run(due, part, test);
            }
        }
        due.end();
    }

    static List<Method> tests(Class<?> part) {
        return Arrays.stream(part.getDeclaredMethods())
                .filter(m -> m.isAnnotationPresent(Says.class))
                .sorted(Comparator.comparing(Method::getName))
                .toList();
    }

    private static void run(Due due, Class<?> part, Method test) throws IllegalAccessException {
        due.begin(part.getSimpleName() + "." + test.getName());
        try {
            test.invoke(null, due);
        } catch (InvocationTargetException e) {
            due.failed("it threw " + e.getCause());
        }
    }
}
