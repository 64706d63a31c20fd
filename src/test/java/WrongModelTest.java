/** Promises 3 and 5: where a model's text is wrong. The mark ` stands before the character where it is. */
final class WrongModelTest {
    private static final Checks CHECKS = new Checks("WrongModelTest");

    public static void main(String[] args) {
        declarations();
        processes();
        names();
        expressions();
        labelsAndJumps();
        breaksAndElse();
        nesting();
        manyStatements();
        CHECKS.end();
    }

    private static void wrong(String... marked) {
        for (String text : marked) {
            CHECKS.wrongModel(text);
        }
    }

    private static void right(String... texts) {
        for (String text : texts) {
            CHECKS.rightModel(text);
        }
    }

    private static void declarations() {
        wrong("`", "`x;{-}", "`;{-}", "a`{-}", "a`", "a=`8;{-}", "a=`;{-}", "a=1`", "a=1;`", "a=1`1;{-}", "a`!1;{-}");
        wrong("#`;{-}", "#a`;{-}", "#a`4;{-}", "#a`7;{-}", "#a`8;{-}", "#a3`", "#`i0;{-}", "`i;{-}", "`A;{-}",
                "#`#a0;{-}");
        wrong("a;`a;{-}", "a;#`a1;{-}", "#a1;`a;{-}", "#a1;#`a1;{-}");
        wrong("a;b;c;d;e;f;`g;{-}", "#a0;#b0;#`c0;{-}", "a;b;c;d;e;f;#g1;#h2;`a;{-}");
        right("a;b;c;d;e;f;#g0;#h3;{-}", "#a0;#b0;c;d;e;f;g=7;h=0;{-}");
    }

    private static void processes() {
        wrong("{-}`;", "{-}`-", "{-}`a;{-}", "{-}{-}{-}{-}`{-}", "{`}", "{-;`}", "{-`-}", "{-`", "{-}{`", "{-}{-`",
                "{-}`}");
        wrong("{-`>}", "{-`]}", "{-`|-}", "{`;-}", "{-;`;-}", "{[-`}", "{[-|`}", "{[`]}", "{[-`>}", "{<-`]}",
                "{<-`|->}", "{<`>}");
        wrong("{*`-}", "{*`", "{*`<->}", "{`+}", "{`1}", "{`A-}");
        right("{-}{-}{-}{-}", "{[-]}", "{[-|-|-]}", "{*[-|-]}", "{<-;->}");
    }

    private static void names() {
        wrong("a;{`b=1}", "a;{a`!1}", "a;{a`?a}", "a;{a`}", "#a1;{a`=1}", "#a1;{a`}", "#a1;{a?`a}", "#a1;b;{a?`c}",
                "#a1;{a?`}", "#a1;b;{a?b`=1}");
        wrong("a;{a=`b}", "a;{(`b)}", "#a1;{a!`b}", "a;{`i=1}", "a;{a=`i}", "#a1;b;{a?`1}");
        right("#a1;b;{a?b}", "#a1;b;{a!b}", "#a1;{a!a}", "#a1;b;{b=a}", "#a0;b;{(a=b)}");
    }

    private static void expressions() {
        wrong("a;{a=`}", "a;{a=1+`}", "a;{a=1`1}", "a;{a=1=1`=1}", "a;{a=1<1`<1}", "a;{a=1=1`<1}", "a;{a=`-1}",
                "a;{a=1+`*1}", "a;{a=1`)}", "a;{a=(1`}", "a;{a=(1=1`=1)}", "a;{a=`8}");
        wrong("{(`)}", "{(1`}", "{(1=1`=1)}", "{(1)`=1}", "{(1)`)}", "{(1+`)}", "{`)}", "{(`");
        wrong("{((((`(1)))))}", "a;{a=((((`(1)))))}", "a;{a=1+((1)+(((`(1)))))}");
        right("{((((1))))}", "a;{a=((((1))))}", "{((1)+(1)+(1)+(((1))))}", "a;{a=(1=1)=(1<2)}", "a;{a=1+2*3-4<5*6}");
        String twelve = "1+a*1-1+1+a+1+1+1+1+1+1";
        right("a;{a=" + twelve + "}", "a;{(" + twelve + ")}", "a;{a=" + twelve + ";a=" + twelve + "}");
        wrong("a;{a=" + twelve + "+`1}", "a;{(" + twelve + "*`a)}", "a;{a=" + twelve + "+(`1)}",
                "a;{a=" + twelve + "=`1}", "#a1;b;{a!" + twelve.replace('a', 'b') + "-`1}");
    }

    private static void labelsAndJumps() {
        wrong("{:`a-}", "{:`I-}", "{:A`}", "{:A`;-}", "{:A-;:`A-}", "{:A:`A-}", "{:A[-;:`A-]}", "{:`");
        wrong("{[`^A]}", "{<`^A>}", "{:A-;[-|`^A]}", "{*[`^A;:A-]}", "{[:A`^A]}", "{-;^`}", "{-;^`a}", "{-;^`I}",
                "{^`");
        wrong("{-;^`A}", "{^`A}", "{^`A;-}", "{:A-}{-;^`A}", "{-;^`A;^B}", "{:A-;^A;^`B}", "{-;^A`");
        wrong("{:A^`A}", "{-;:A^`B;:B^A}", "{-;^`B;:A^B;:B^A}", "{*[-;:A.];^`A}", "{*[-;:A.];^`A;-}", "{-;^A;-;:A^`B}");
        // Of two wrong jumps the first in the text counts, and jumps are looked at only when the "}" is come to.
        wrong("{-;^`A;:B^B}", "{:B^`B;-;^A}", "{-;^A`)", "{-;^A;`x}");
        right("{^A;:A-}", "{:A-;^A}", "{:A:B-;^A;^B}", "{:A-}{:A-}", "{^A;:B-;:A^B}", "{*[-;:A.];-;^A}", "{:A<->;^A}",
                "{*[-;^A];:A-}");
    }

    private static void breaksAndElse() {
        wrong("{`.}", "{-;`.}", "{[-;`.]}", "{*[`.]}", "{*[:A`.]}", "{*[-;<`.>]}", "{*[-|`.]}", "{*[[`.]]}",
                "{*[-];`.}", "{<-;`.>}");
        right("{*[-;.]}", "{*[-;[-;.]]}", "{*[-;<-;.>]}", "{<*[-;.]>}");
        wrong("{`~}", "{-;`~}", "{[-;`~]}", "{<`~>}", "{[<`~>]}", "{:A`~}", "{[~;`~]}");
        right("{[~]}", "{*[~]}", "{*[:A~]}", "{[-|~;-]}", "{[[~]]}", "{<[~]>}");
    }

    private static void nesting() {
        wrong("{<`<->>}", "{<[`<->]>}", "{<-;*[-;`<->]>}");
        right("{<->;<->}", "{[<->|<->]}", "{<[-]>}");
        wrong("{[[[[[[`[-]]]]]]]}", "{[[[[[[`<->]]]]]]}", "{[[[[[[*`[-]]]]]]]}", "{<[[[[[`[-]]]]]]>}",
                "{*[*[*[*[*[*[*`[-]]]]]]]}", "{[[[[[[-;`[-]]]]]]]}");
        right("{[[[[[[-]]]]]]}", "{*[*[*[*[*[*[-]]]]]]}", "{<[[[[[-]]]]]>}", "{[[[[[<->]]]]]}",
                "{[-];[-];[-];[-];[-];[-];[-]}");
    }

    private static void manyStatements() {
        String thirty = "-" + ";-".repeat(29);
        right("{" + thirty + "}", "{<" + thirty + ">}", "{:A" + thirty + ";^A}",
                "{" + thirty + "}{-" + ";-".repeat(17) + "}");
        wrong("{" + thirty + ";`-}", "{" + thirty + ";`[-]}", "{" + thirty + ";`*[-]}", "{" + thirty + ";`(1)}",
                "{" + thirty + ";:A`-}", "{" + thirty + ";<`->}");
        String within = "[" + "-" + ";-".repeat(27) + "];-";
        right("{" + within + "}");
        wrong("{" + within + ";`-}");
        String most = "{" + thirty + "}{-" + ";-".repeat(17);
        wrong(most + ";`-}", most + "}{`-}", most + ";[`-]}", most + ";<`->}", "a;" + most + ";`a=1}", most + ";`(1)}");
        right(most + "}", "{:A" + thirty + "}{:A-" + ";-".repeat(17) + ";^A;^A}");
    }
}
