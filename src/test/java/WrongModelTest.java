/**
 * Promises 3 and 5, with the words of "Terms" on where a model's text is wrong: each with the last that is right and
 * the first that is wrong. The mark ` stands before the character at which a text is wrong.
 */
final class WrongModelTest {
    private static final Checks CHECKS = new Checks("WrongModelTest");
    private static final String TWELVE = "1+a*1-1+1+a+1+1+1+1+1+1";
    private static final String THIRTY = dashes(30);
    /** All basic statements that there may be but one; a process is open. */
    private static final String BUT_ONE = "a;#b1;{" + dashes(30) + "}{" + dashes(17);

    public static void main(String[] args) {
        wholeModel();
        declarations();
        namesLabelsDigits();
        bodies();
        statements();
        expressions();
        ends();
        declaredBefore();
        usedUndeclared();
        receivedInto();
        followedBy();
        tooManyNames();
        slots();
        processes();
        labelsTwice();
        atomicWithin();
        breakOutside();
        firstStatement();
        elses();
        openBrackets();
        openParentheses();
        parts();
        basicsInAll();
        pointsOfProcess();
        jumpsWithoutLabel();
        jumpsForEver();
        jumpsInOrder();
        CHECKS.end();
    }

    private static String dashes(int number) {
        return "-" + ";-".repeat(number - 1);
    }

    private static void right(String... texts) {
        CHECKS.rightModels(texts);
    }

    private static void wrong(String... marked) {
        CHECKS.wrongModels(marked);
    }

    private static void wholeModel() {
        CHECKS.sentence("MODEL = { DECLARATION ; } PROCESS { PROCESS }");
        right("{-}", "a;{-}", "a;#b0;c=1;{-}", "{-}{-}");
        wrong("`", "a;`", "`-", "`;{-}", "`}", "a`{-}", "a=1`{-}", "#a1`{-}", "{-}`a;{-}", "{-}`;", "{-}`-", "{-}`}");
        wrong("`x{-}", "a;`x", "a;`;{-}");
    }

    private static void declarations() {
        CHECKS.sentence("NAME [ = DIGIT ]");
        right("a;{-}", "a=0;{-}", "a=7;{-}");
        wrong("a=`;{-}", "a=`8;{-}", "a=`a;{-}", "a=`-1;{-}", "a=1`1;{-}", "a`1;{-}",
                "a`!1;{-}", "a`b;{-}");
        CHECKS.sentence("# NAME DIGIT");
        right("#a0;{-}", "#a1;{-}", "#a2;{-}", "#a3;{-}");
        wrong("#`;{-}", "#`1;{-}", "#`#a1;{-}", "#a`;{-}", "#a`=1;{-}", "#a`b;{-}", "#a1`1;{-}", "#a1`=1;{-}");
    }

    private static void namesLabelsDigits() {
        CHECKS.sentence("A name is a letter a .. h, a label A .. H, a digit 0 .. 7.");
        for (char name = 'a'; name <= 'h'; name++) {
            right(name + ";{" + name + "=" + name + "}", "#" + name + "1;{" + name + "!1}");
        }
        for (char label = 'A'; label <= 'H'; label++) {
            right("{:" + label + "-;^" + label + "}");
        }
        for (char digit = '0'; digit <= '7'; digit++) {
            right("a=" + digit + ";{a=" + digit + "}");
        }
        // The characters next to the first and to the last ones; the mark itself is before a.
        for (char name : "`i@AHz".toCharArray()) {
            CHECKS.wrongModel(name + ";{-}", 0);
            CHECKS.wrongModel("#" + name + "1;{-}", 1);
            CHECKS.wrongModel("a;{" + name + "=1}", 3);
            CHECKS.wrongModel("a;{a=" + name + "}", 5);
            CHECKS.wrongModel("#a1;{a?" + name + "}", 7);
        }
        for (char label : "@Iah`Z1".toCharArray()) {
            CHECKS.wrongModel("{:" + label + "-}", 2);
            CHECKS.wrongModel("{-;^" + label + "}", 4);
        }
        for (char digit : "/8:9".toCharArray()) {
            CHECKS.wrongModel("a=" + digit + ";{-}", 2);
            CHECKS.wrongModel("#a" + digit + ";{-}", 2);
            CHECKS.wrongModel("a;{a=" + digit + "}", 5);
        }
    }

    private static void bodies() {
        CHECKS.sentence("BODY = ITEM { ; ITEM }");
        right("{-;-}", "{[-;-|-]}", "{<-;->}");
        wrong("{`}", "{`;-}", "{-;`}", "{-;`;-}", "{-`-}", "{-`(1)}", "{[`]}", "{[-;`]}", "{[-|`]}", "{[`|-]}", "{<`>}",
                "{<-;`>}");
        wrong("{-`>}", "{-`]}", "{-`|-}", "{[-`}", "{[-`>}", "{<-`]}", "{<-`|->}", "{<-`}");
        CHECKS.sentence("ITEM = { : LABEL } STATEMENT");
        right("{:A-}", "{:A:B:C:D:E:F:G:H-}", "{[:A-|:B-];<:C->}", "{:A[-];:B*[-];:C<->;:D^A}");
        wrong("{:A`}", "{:A`;-}", "{:A:B`}", "{`A-}", "{-`:A}", "{:A:`");
    }

    private static void statements() {
        CHECKS.sentence("STATEMENT =");
        right("a;{a=1}", "{(1)}", "#a1;{a!1}", "#a1;b;{a?b}", "{-}", "{[~]}", "{[-]}", "{[-|-|-]}", "{*[-]}",
                "{*[-|-]}", "{<->}", "{*[-;.]}", "{:A-;^A}");
        wrong("{`+}", "{`1}", "{`)}", "{`=1}", "{`!}", "{`?}", "{`@}", "{`#}", "{:`", "{`{-}}");
        wrong("{*`-}", "{*`<->}", "{*`*[-]}", "{*`}", "{*`(1)}", "{-`*[-]}", "{<-`[-]>}");
        wrong("{(`)", "{(1`}", "{(1`;", "{(1)`)}", "{(1)`=1}", "{(1)`+1}");
    }

    private static void expressions() {
        CHECKS.sentence("EXPRESSION = SUM [ ( = | < ) SUM ]");
        right("a;{a=1=1}", "a;{a=1<1}", "a;{a=(1=1)=(1<2)}", "a;{a=(1=1)<1}", "{(1=1)}", "a;{a=1+2*3-4<5*6}",
                "a;{a=(1=(1=(1=(1=1))))}", "a;{a=(1=1)+(1=1)=2}");
        wrong("a;{a=1=1`=1}", "a;{a=1<1`<1}", "a;{a=1=1`<1}", "a;{a=1<1`=1}", "{(1=1`=1)}", "a;{a=(1=1`=1)}",
                "a;{a=(1=1)=1`=1}", "a;{a=1=(1=1)`=1}", "a;{a=1`>1}");
        CHECKS.sentence("SUM = PRODUCT { ( + | - ) PRODUCT }. PRODUCT = PART { * PART }.");
        right("a;{a=1+1-1*1*1}", "a;{a=a*a+a}");
        wrong("a;{a=`}", "a;{a=`+1}", "a;{a=`-1}", "a;{a=`*1}", "a;{a=1+`}", "a;{a=1-`}", "a;{a=1*`}", "a;{a=1=`}",
                "a;{a=1<`}", "a;{a=1+`*1}", "a;{a=1+`+1}", "a;{a=1=`=1}", "a;{a=1`1}", "a;{a=1`a}", "a;{a=a`(1)}",
                "a;{a=1`/1}");
        CHECKS.sentence("PART = DIGIT | NAME | ( EXPRESSION )");
        right("a;{a=(1)}", "a;{a=(a)*(1)}", "a;{a=((1)+1)}");
        wrong("a;{a=(`)}", "a;{a=(1`}", "a;{a=(1`;-}", "a;{a=1`)}", "a;{a=(1)`)}", "a;{a=(1)`(1)}", "a;{a=(1)`1}",
                "a;{a=(1+`)}", "a;{a=(`", "a;{a=((1)`}");
    }

    private static void ends() {
        CHECKS.sentence("at its end, if more must come");
        String all = "a=3;#b2;{:A:Ba=(1+b)*2<3;*[(a)|~;b!a-1;<-;[-;.|b?a]>;^A]}";
        right(all);
        for (int length = 0; length < all.length(); length++) {
            CHECKS.wrongModel(all.substring(0, length), length);
        }
        wrong("{-}{`", "{-}{-`");
    }

    private static void declaredBefore() {
        CHECKS.sentence("at a name that is declared and was before");
        right("a;b;{-}", "#a1;b;{-}", "a;#b1;{-}", "#a1;#b1;{-}");
        wrong("a;`a;{-}", "a;#`a1;{-}", "#a1;`a;{-}", "#a1;#`a1;{-}", "a;b;`a;{-}", "a=1;`a=1;{-}", "a;b;c;`b;{-}");
    }

    private static void usedUndeclared() {
        CHECKS.sentence("or is used and wasn't");
        right("a;{a=a}", "a;{(a)}", "#a1;{a!a}", "#a1;b;{b=a}", "#a1;b;{a?b}");
        wrong("a;{`b=1}", "{`a=1}", "{`a!1}", "#a1;{`b!1}", "#a1;{`b?a}", "a;{a=`b}", "a;{a=1+`b}", "a;{(`b)}",
                "a;{(a=`b)}", "#a1;{a!`b}", "#a1;{a?`b}", "a;{-}{`b=1}", "a;{a=(`b)}");
    }

    private static void receivedInto() {
        CHECKS.sentence("or is received into and is no variable");
        right("#a1;#b1;c;{a?c}", "#a0;b;{a?b}");
        wrong("#a1;{a?`a}", "#a1;#b1;{a?`b}", "#a1;b;{a?`c}", "#a1;b;{a?`1}", "#a1;b;{a?`(b)}", "#a1;{a?`}",
                "#a1;b;{a?b`=1}", "#a1;b;{a?b`+1}");
    }

    private static void followedBy() {
        CHECKS.sentence("a variable is followed by = alone, a channel by ! or ?");
        right("a;{a=1}", "#a1;{a!1}", "#a1;b;{a?b}");
        wrong("a;{a`!1}", "a;{a`?a}", "a;{a`}", "a;{a`;-}", "a;{a`+1}", "a;{a=`=1}", "#a1;{a`=1}", "#a1;{a`}",
                "#a1;{a`;-}", "#a1;{a!`!1}", "#a1;b;{a?`?b}");
    }

    private static void tooManyNames() {
        CHECKS.sentence("at a seventh variable's, a third channel's name");
        right("a;b;c;d;e;f;{-}", "a;b;c;d;e;f;#g0;#h3;{-}", "#a0;#b0;c;d;e;f;g=7;h=0;{-}", "#a0;#b0;{-}");
        wrong("a;b;c;d;e;f;`g;{-}", "a;b;c;d;e;f;`g=1;{-}", "#h1;a;b;c;d;e;f;`g;{-}", "#a0;#b0;#`c0;{-}",
                "#a0;c;#b0;d;#`e0;{-}", "a;b;c;d;e;f;#g1;#h2;`a;{-}", "a;b;c;d;e;f;`f;{-}");
    }

    private static void slots() {
        CHECKS.sentence("at a channel's digit above 3");
        right("#a3;{-}", "#a0;{-}");
        wrong("#a`4;{-}", "#a`5;{-}", "#a`6;{-}", "#a`7;{-}", "#a1;#b`4;{-}");
    }

    private static void processes() {
        CHECKS.sentence("at the { of a fifth process");
        right("{-}{-}{-}{-}");
        wrong("{-}{-}{-}{-}`{-}", "{-}{-}{-}{-}`{", "{-}{-}{-}{-}`-", "{-}{-}{-}{`{-}}");
    }

    private static void labelsTwice() {
        CHECKS.sentence("at a label that is set twice in its process");
        right("{:A-;:B-}", "{:A-}{:A-}", "{:A-;:B-}{:B-;:A-}");
        wrong("{:A-;:`A-}", "{:A:`A-}", "{:A:B:`A-}", "{:A[-;:`A-]}", "{[:A-|:`A-]}", "{<:A->;:`A-}", "{-}{:A-;:`A-}",
                "{:H-;:`H-}");
    }

    private static void atomicWithin() {
        CHECKS.sentence("at a < within an atomic");
        right("{<->;<->}", "{[<->|<->]}", "{[-;<->];<->}", "{<[-]>}", "{<*[-]>}");
        wrong("{<`<->>}", "{<-;`<->>}", "{<[`<->]>}", "{<-;*[-;`<->]>}", "{<[[-;`<->]]>}", "{<[-];`<->>}");
    }

    private static void breakOutside() {
        CHECKS.sentence("at a . that no repetition is around");
        right("{*[-;.]}", "{*[-;[-;.]]}", "{*[-;<-;.>]}", "{<*[-;.]>}", "{[*[-;.]]}", "{*[-|-;.]}", "{*[*[-];.]}");
        wrong("{`.}", "{-;`.}", "{[-;`.]}", "{<-;`.>}", "{*[-];`.}", "{[*[-];`.]}", "{*[-]}{-;`.}", "{[-;[-;`.]]}");
    }

    private static void firstStatement() {
        CHECKS.sentence("at a . or ^ that is the first statement of an option's or atomic's body");
        right("{*[-;.]}", "{*[-|-;.]}", "{*[<-;.>]}", "{^A;:A-}", "{:A-;[-;^A]}", "{:A-;[-|-;^A]}", "{:A<-;^A>}",
                "{*[-;^A];:A-}", "{*[-;.;.;^A;:A-]}");
        wrong("{*[`.]}", "{*[-|`.]}", "{*[[`.]]}", "{*[-;[`.]]}", "{*[<`.>]}", "{*[-;<`.>]}", "{*[:A`.]}",
                "{*[-|:A:B`.;-]}");
        wrong("{:A-;[`^A]}", "{:A-;[-|`^A]}", "{:A-;*[`^A]}", "{:A-;*[-|`^A]}", "{:A-;<`^A>}", "{:A-;<:B`^A>}",
                "{:A-;[:B`^A]}", "{[[`^A]]}", "{*[`^A;:A-]}");
    }

    private static void elses() {
        CHECKS.sentence("at a ~ that isn't the first statement of an option");
        right("{[~]}", "{*[~]}", "{[:A~]}", "{*[:A:B~;-]}", "{[-|~;-]}", "{*[-|~]}", "{[[~]]}", "{<[~]>}", "{[~|~]}",
                "{-;[~];-}");
        wrong("{`~}", "{:A`~}", "{-;`~}", "{[-;`~]}", "{[~;`~]}", "{*[-|-;`~]}", "{<`~>}", "{[<`~>]}", "{[-];`~}",
                "{[[-];`~]}", "{[[~];`~]}");
    }

    private static void openBrackets() {
        CHECKS.sentence("at the [ or < that is a seventh one open at a time");
        right("{[[[[[[-]]]]]]}", "{*[*[*[*[*[*[-]]]]]]}", "{<[[[[[-]]]]]>}", "{[[[[[<->]]]]]}", "{[[[[[[-|-];[-]]]]]]}",
                "{[-];[-];[-];[-];[-];[-];[-]}", "{<->;<->;<->;<->;<->;<->;<->}", "{[[[[[[-]]]]]]}{[[[[[[-]]]]]]}",
                "{[[[[[[-]|<->]]]]]}", "{[[[[[[(((1)))]]]]]]}");
        wrong("{[[[[[[`[-]]]]]]]}", "{[[[[[[-;`[-]]]]]]]}", "{[[[[[[-|`[-]]]]]]]}", "{[[[[[[`<->]]]]]]}",
                "{[[[[[[-;`<->]]]]]]}", "{<[[[[[`[-]]]]]]>}", "{[[[<[[`[-]]]>]]]}");
        wrong("{[[[[[[*`[-]]]]]]]}", "{*[*[*[*[*[*[*`[-]]]]]]]}", "{[[[[[[`[");
    }

    private static void openParentheses() {
        CHECKS.sentence("at the ( that is a fifth one open at a time within an expression or wait");
        right("a;{a=((((1))))}", "a;{a=((((1))))+((((1))))}", "a;{a=(1)+(1)+(1)+(1)+(1)}", "#a1;{a!((((1))))}",
                "a;{a=((((1))));a=((((1))))}");
        wrong("a;{a=((((`(1)))))}", "#a1;{a!((((`(1)))))}", "a;{a=1+((1)+(((`(1)))))}", "a;{a=((((1+`(1)))))}",
                "a;{a=((((1))))+((((`(1)))))}");
        CHECKS.sentence("that of the wait counts");
        right("{((((1))))}", "{((1)+(1)+(1)+(((1))))}", "{(((1))+(((1))))}", "{((((1))));((((1))))}");
        wrong("{((((`(1)))))}", "{(1+(((`(1)))))}", "{((((1)))+(((`(1)))))}");
    }

    private static void parts() {
        CHECKS.sentence("at the thirteenth part of one expression or wait");
        right("a;{a=" + TWELVE + "}", "a;{(" + TWELVE + ")}", "a;#b1;{b!" + TWELVE + "}");
        wrong("a;{a=" + TWELVE + "+`1}", "a;{a=" + TWELVE + "-`a}", "a;{(" + TWELVE + "*`a)}",
                "a;{a=" + TWELVE + "=`1}", "a;{(" + TWELVE + "<`1)}", "a;#b1;{b!" + TWELVE + "-`1}");
        CHECKS.sentence("digits and names count, not parentheses");
        right("a;{a=(" + TWELVE + ")}", "a;{a=((((" + TWELVE + "))))}", "a;{a=" + TWELVE.replace("1", "(1)") + "}",
                "a;{((((" + TWELVE + "))))}", "a;{a=" + TWELVE + ";a=" + TWELVE + "}",
                "a;{(" + TWELVE + ");(" + TWELVE + ")}");
        wrong("a;{a=" + TWELVE + "+(`1)}", "a;{a=(" + TWELVE + ")+(`a)}", "a;{a=(" + TWELVE + "+`1)}",
                "a;{a=a+a+a+a+a+a+a+a+a+a+a+a+`a}", "a;{a=1+1+1+1+1+1+1+1+1+1+1+1+`1}");
        wrong("a;{a=(" + TWELVE + ")+((((`1))))}");
    }

    private static void basicsInAll() {
        CHECKS.sentence("at the first character of a 49th basic statement in all");
        String[] basics = {"a=1", "(1)", "b!1", "b?a", "-"};
        for (String basic : basics) {
            right(BUT_ONE + ";" + basic + "}");
            wrong(BUT_ONE + ";-;`" + basic + "}", BUT_ONE + ";-}{`" + basic + "}", BUT_ONE + ";-;:A`" + basic + "}",
                    BUT_ONE + ";-;[`" + basic + "]}", BUT_ONE + ";-;<`" + basic + ">}");
        }
        right(BUT_ONE + ";[~]}");
        wrong(BUT_ONE + ";[-|`~]}", BUT_ONE + ";-;*[`~]}", BUT_ONE + ";-;`", BUT_ONE + ";a`;-}");
        // Neither choices, atomics, breaks nor jumps count.
        right(BUT_ONE.replace("}{-", "}{:A-") + ";*[[<->];.;^A];^A;^A}");
        // Twice in one object: they are counted anew.
        LassoFinder x = new LassoFinder();
        for (int i = 0; i < 2; i++) {
            CHECKS.write(x, BUT_ONE + ";(0)}");
            CHECKS.throwing("48 of them, again", Checks.UOE, () -> x.model());
        }
    }

    private static void pointsOfProcess() {
        CHECKS.sentence("a basic statement, selection or repetition that is the 31st of these in its process");
        String names = "a;#b1;";
        String but = names + "{" + dashes(29);
        String[] basics = {"a=1", "(1)", "b!1", "b?a", "-"};
        for (String basic : basics) {
            right(but + ";" + basic + "}");
            wrong(but + ";-;`" + basic + "}", but + ";-;:A:B`" + basic + "}", but + ";-;<`" + basic + ">}");
        }
        wrong(but + ";-;`[-]}", but + ";-;`*[-]}", but + ";[`-]}", but + ";*[`-]}", but + ";[`~]}", but + ";[`[-]]}",
                but + ";[`*[-]]}", but + ";-;`[", but + ";-;`*");
        String choices = "{[" + dashes(13) + "];*[" + dashes(13) + "];[~]";
        right(choices + "}", "{[" + dashes(29) + "]}", "{*[" + dashes(29) + "]}");
        wrong(choices + ";`-}", "{[" + dashes(29) + ";`-]}", "{[" + dashes(29) + "|`-]}",
                "{*[" + dashes(29) + "];`-}");
        // Neither atomics, breaks nor jumps count; each process has its own.
        right("{<" + THIRTY + ">}", "{:A" + THIRTY + ";^A;^A}", "{*[" + dashes(29) + ";.;.]}",
                "{" + dashes(29) + ";<->}");
        right("{" + THIRTY + "}{" + dashes(18) + "}", "{" + dashes(18) + "}{" + THIRTY + "}");
        wrong("{-}{" + THIRTY + ";`-}", "{" + dashes(17) + "}{" + THIRTY + ";`-}");
    }

    private static void jumpsWithoutLabel() {
        CHECKS.sentence("the first one whose label isn't set in the process");
        right("{:A-;^A}", "{^A;:A-}", "{:A:B-;^B}", "{[:A-];^A}", "{<-;:A->;^A}", "{:A-;^A}{:A-;^A}", "{-;^H;:H-}");
        wrong("{-;^`A}", "{^`A}", "{^`A;:B-}", "{:A-}{-;^`A}", "{-;^`A}{:A-}", "{:A-;^A}{-;^`A}", "{-;^`A;^B}",
                "{:A-;^A;^`B}", "{*[-;[-;^`A]]}", "{<-;^`A>}", "{:G-;^`H}");
    }

    private static void jumpsForEver() {
        CHECKS.sentence("or from which only further jumps and breaks would be come to, for ever");
        right("{:A-;^A}", "{-;^A;:A-}", "{^A;:B-;:A^B}", "{-;:A^B;:B^C;:C-}", "{*[-;:A.];-;^A}", "{:A<->;^A}",
                "{:A*[-;^A]}", "{:A[-;^A]}", "{:A-;:B^A;^B}", "{^A;*[-;:A.]}", "{*[*[-;:A.];.];-;^A}");
        wrong("{:A^`A}", "{-;:A^`A}", "{:A^`A;-}", "{-;:A^`B;:B^A}", "{-;:A^`B;:B^C;:C^A}", "{-;:A:B^`A}");
        wrong("{*[-;:A.];^`A}", "{*[-;:A.];^`A;-}", "{*[*[-;:A.];.];^`A}", "{*[-;:A.];:B^`C;:C^A}",
                "{*[-;*[-;:A.];^`A]}");
        // The round needn't lead to the jump itself.
        wrong("{-;^`A;:A^A}", "{-;^`B;:A^B;:B^A}", "{^`A;-;:A^A}");
    }

    private static void jumpsInOrder() {
        CHECKS.sentence("At last, at the } of a process, its jumps are looked at in their order");
        wrong("{-;^`A;:B^B}", "{:B^`B;-;^A}", "{-;^`A;^B;^C}", "{:A-;^A;^`C;^B}", "{:A-;^A;-;:B^`B;^C}");
        // Whose label is set, and that comes to one whose label isn't: the other one is wrong.
        wrong("{-;^A;-;:A^`B}");
        // What is wrong before the } comes first, and the } before what is behind it.
        wrong("{-;^A`", "{-;^A`)", "{-;^A;`x}", "{-;^A;:B^B;`]}", "{-;^A;-`]}", "{:B^`B}{x}", "{-;^`A}x", "{-;^`A}{",
                "{-}{-;^`A}{x}", "{-;^`A}{^B}");
    }
}
