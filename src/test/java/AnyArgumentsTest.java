import java.lang.reflect.InvocationTargetException;
import java.lang.reflect.Method;
import java.lang.reflect.Modifier;
import java.util.ArrayList;
import java.util.Comparator;
import java.util.List;

/** No call ever throws, whatever its arguments are, in any state, also behind the 512th call. */
public final class AnyArgumentsTest {
    private static final Due DUE = new Due();
    private static final int HOUSES = 60;
    private static final int CALLS = 3000;

    public static void main(String[] args) throws IllegalAccessException {
        List<Method> methods = new ArrayList<>();
        for (Method method : CrystalHouse.class.getDeclaredMethods()) {
            if (Modifier.isPublic(method.getModifiers())) {
                methods.add(method);
            }
        }
        methods.sort(Comparator.comparing(Method::getName));
        Numbers numbers = new Numbers(3);
        for (int i = 0; i < HOUSES; i++) {
            CrystalHouse house = i % 2 == 0 ? new CrystalHouse() : furnished();
            for (int k = 0; k < CALLS; k++) {
                call(house, methods.get(numbers.below(methods.size())), numbers);
            }
        }
        DUE.close("no call throws");
    }

    /** A house with something of each kind, so that more arguments are of what there is. */
    private static CrystalHouse furnished() {
        CrystalHouse house = new CrystalHouse();
        Due.group(house, "z,x,y", "-y,x,z", "-x,-y,-z", "x+1/2,y+1/2,z", "x,y+1/2,z+1/2");
        house.group();
        Due.group(house, "-x,-y,-z");
        house.cell(10000, 10000, 10000, 0, 0, 0);
        house.cell(1009, 2003, 3001, 101, 57, 211);
        house.model(0, 0);
        house.model(1, 1);
        house.model(2, 1);
        house.atom(0, 99, 627);
        house.atom(1, -99, 5);
        house.phase(1, 2, -5);
        house.phase(99, 1, 100000000L);
        return house;
    }

    private static void call(CrystalHouse house, Method method, Numbers numbers) throws IllegalAccessException {
        Object[] arguments = new Object[method.getParameterCount()];
        for (int i = 0; i < arguments.length; i++) {
            int any = numbers.once(8) ? (int) numbers.next()
                : numbers.once(8) ? numbers.pick(Integer.MIN_VALUE, Integer.MAX_VALUE, -60, 60, 13823, 13824, 19682, 10000)
                : numbers.from(-4, 13);
            boolean wide = method.getParameterTypes()[i] == long.class;
            arguments[i] = wide ? (Object) (numbers.once(4) ? numbers.next() : any) : (Object) any;
        }
        try {
            method.invoke(house, arguments);
        } catch (InvocationTargetException thrown) {
            DUE.is(method.getName() + java.util.Arrays.toString(arguments), thrown.getCause().toString(), "an answer");
        }
    }
}
