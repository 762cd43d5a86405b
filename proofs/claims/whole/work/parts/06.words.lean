theorem tw0 : Cond.initialized "TextMorphLaw" ∈ xTb := tb 0 (by decide +kernel) rfl
theorem tw1 : Cond.initialized "TextMorph" ∈ xTb := tb 1 (by decide +kernel) rfl
theorem tw2 : Cond.initialized "TextMorph$State" ∈ xTb := tb 2 (by decide +kernel) rfl
theorem tw3 : Cond.initialized "TextMorph$Text" ∈ xTb := tb 3 (by decide +kernel) rfl
theorem tw4 : Cond.initialized "java/util/Arrays" ∈ xTb := tb 4 (by decide +kernel) rfl
theorem tw5 : Cond.initialized "java/lang/System" ∈ xTb := tb 5 (by decide +kernel) rfl
theorem tw6 : Cond.initialized "TextMorph$Morph" ∈ xTb := tb 6 (by decide +kernel) rfl
theorem tw7 : Cond.initialized "TextMorph$Pairs" ∈ xTb := tb 7 (by decide +kernel) rfl
theorem tw8 : Cond.initialized "TextMorph$Motion" ∈ xTb := tb 8 (by decide +kernel) rfl
theorem tw9 : Cond.initialized "TextMorph$Buffer" ∈ xTb := tb 9 (by decide +kernel) rfl
theorem tw10 : Cond.initialized "TextMorphModel" ∈ xTb := tb 10 (by decide +kernel) rfl
theorem tw14 : Cond.initialized "java/lang/IndexOutOfBoundsException" ∈ xTb := tb 14 (by decide +kernel) rfl
theorem tw15 : Cond.initialized "java/lang/IllegalArgumentException" ∈ xTb := tb 15 (by decide +kernel) rfl
theorem tw16 : Cond.initialized "java/lang/IllegalStateException" ∈ xTb := tb 16 (by decide +kernel) rfl
theorem tw17 : Cond.initialized "java/lang/Math" ∈ xTb := tb 17 (by decide +kernel) rfl
theorem tw19 : Cond.initialized "java/lang/Double" ∈ xTb := tb 19 (by decide +kernel) rfl
theorem tw20 : Cond.classLink "TextMorphLaw" (8 : Nat) "TextMorph" ∈ xTb := tb 20 (by decide +kernel) rfl
theorem tw21 : Cond.instantiable "TextMorph" (8 : Nat) ∈ xTb := tb 21 (by decide +kernel) rfl
theorem tw22 : Cond.methodLink "TextMorphLaw" (59 : Nat) ({ cls := "TextMorph", name := "<init>", desc := "()V" } : MethodName) ∈ xTb := tb 22 (by decide +kernel) rfl
theorem tw23 : Cond.instanceMethod ({ cls := "TextMorph", name := "<init>", desc := "()V" } : MethodName) ∈ xTb := tb 23 (by decide +kernel) rfl
theorem tw24 : Cond.code ({ cls := "TextMorph", name := "<init>", desc := "()V" } : MethodName) prog_1_method_1_code (2 : Nat) (Option.none : Option FieldType) ∈ xTb := tb 24 (by decide +kernel) rfl
theorem tw25 : Cond.methodLink "TextMorph" (3 : Nat) ({ cls := "java/lang/Object", name := "<init>", desc := "()V" } : MethodName) ∈ xTb := tb 25 (by decide +kernel) rfl
theorem tw26 : Cond.instanceMethod ({ cls := "java/lang/Object", name := "<init>", desc := "()V" } : MethodName) ∈ xTb := tb 26 (by decide +kernel) rfl
theorem tw27 : Cond.code ({ cls := "java/lang/Object", name := "<init>", desc := "()V" } : MethodName) object_method_1_code (1 : Nat) (Option.none : Option FieldType) ∈ xTb := tb 27 (by decide +kernel) rfl
theorem tw28 : Cond.classLink "TextMorph" (9 : Nat) "TextMorph$State" ∈ xTb := tb 28 (by decide +kernel) rfl
theorem tw29 : Cond.instantiable "TextMorph$State" (3 : Nat) ∈ xTb := tb 29 (by decide +kernel) rfl
theorem tw30 : Cond.methodLink "TextMorph" (11 : Nat) ({ cls := "TextMorph$State", name := "<init>", desc := "()V" } : MethodName) ∈ xTb := tb 30 (by decide +kernel) rfl
theorem tw31 : Cond.instanceMethod ({ cls := "TextMorph$State", name := "<init>", desc := "()V" } : MethodName) ∈ xTb := tb 31 (by decide +kernel) rfl
theorem tw32 : Cond.code ({ cls := "TextMorph$State", name := "<init>", desc := "()V" } : MethodName) prog_6_method_1_code (1 : Nat) (Option.none : Option FieldType) ∈ xTb := tb 32 (by decide +kernel) rfl
theorem tw33 : Cond.methodLink "TextMorph$State" (3 : Nat) ({ cls := "java/lang/Object", name := "<init>", desc := "()V" } : MethodName) ∈ xTb := tb 33 (by decide +kernel) rfl
theorem tw34 : Cond.classLink "TextMorph$State" (15 : Nat) "TextMorph$Text" ∈ xTb := tb 34 (by decide +kernel) rfl
theorem tw35 : Cond.instantiable "TextMorph$Text" (3 : Nat) ∈ xTb := tb 35 (by decide +kernel) rfl
theorem tw36 : Cond.methodLink "TextMorph$State" (17 : Nat) ({ cls := "TextMorph$Text", name := "<init>", desc := "()V" } : MethodName) ∈ xTb := tb 36 (by decide +kernel) rfl
theorem tw37 : Cond.instanceMethod ({ cls := "TextMorph$Text", name := "<init>", desc := "()V" } : MethodName) ∈ xTb := tb 37 (by decide +kernel) rfl
theorem tw38 : Cond.code ({ cls := "TextMorph$Text", name := "<init>", desc := "()V" } : MethodName) prog_7_method_1_code (1 : Nat) (Option.none : Option FieldType) ∈ xTb := tb 38 (by decide +kernel) rfl
theorem tw39 : Cond.methodLink "TextMorph$Text" (3 : Nat) ({ cls := "java/lang/Object", name := "<init>", desc := "()V" } : MethodName) ∈ xTb := tb 39 (by decide +kernel) rfl
theorem tw40 : Cond.methodLink "TextMorph$Text" (22 : Nat) ({ cls := "java/util/Arrays", name := "fill", desc := "([II)V" } : MethodName) ∈ xTb := tb 40 (by decide +kernel) rfl
theorem tw41 : Cond.static ({ cls := "java/util/Arrays", name := "fill", desc := "([II)V" } : MethodName) ∈ xTb := tb 41 (by decide +kernel) rfl
theorem tw42 : Cond.code ({ cls := "java/util/Arrays", name := "fill", desc := "([II)V" } : MethodName) prog_21_method_103_code (4 : Nat) (Option.none : Option FieldType) ∈ xTb := tb 42 (by decide +kernel) rfl
theorem tw43 : Cond.fieldLink "TextMorph$Text" (9 : Nat) "TextMorph$Text" "codes" "[I" ∈ xTb := tb 43 (by decide +kernel) rfl
theorem tw44 : Cond.fieldLink "TextMorph" (120 : Nat) "TextMorph$Text" "codes" "[I" ∈ xTb := tb 44 (by decide +kernel) rfl
theorem tw45 : Cond.fieldLink "TextMorph$Text" (15 : Nat) "TextMorph$Text" "cells" "[I" ∈ xTb := tb 45 (by decide +kernel) rfl
theorem tw46 : Cond.fieldLink "TextMorph$Motion" (95 : Nat) "TextMorph$Text" "cells" "[I" ∈ xTb := tb 46 (by decide +kernel) rfl
theorem tw47 : Cond.fieldLink "TextMorph$Morph" (177 : Nat) "TextMorph$Text" "cells" "[I" ∈ xTb := tb 47 (by decide +kernel) rfl
theorem tw48 : Cond.fieldLink "TextMorph$Text" (18 : Nat) "TextMorph$Text" "letters" "I" ∈ xTb := tb 48 (by decide +kernel) rfl
theorem tw49 : Cond.fieldLink "TextMorph" (57 : Nat) "TextMorph$Text" "letters" "I" ∈ xTb := tb 49 (by decide +kernel) rfl
theorem tw50 : Cond.fieldLink "TextMorph$Morph" (69 : Nat) "TextMorph$Text" "letters" "I" ∈ xTb := tb 50 (by decide +kernel) rfl
theorem tw51 : Cond.fieldLink "TextMorph$Motion" (72 : Nat) "TextMorph$Text" "letters" "I" ∈ xTb := tb 51 (by decide +kernel) rfl
theorem tw52 : Cond.fieldLink "TextMorph$Pairs" (73 : Nat) "TextMorph$Text" "letters" "I" ∈ xTb := tb 52 (by decide +kernel) rfl
theorem tw60 : Cond.arrayClass FieldType.int ∈ xTb := tb 60 (by decide +kernel) rfl
theorem tw63 : Cond.methodLink "TextMorph$State" (28 : Nat) ({ cls := "java/lang/System", name := "arraycopy", desc := "(Ljava/lang/Object;ILjava/lang/Object;II)V" } : MethodName) ∈ xTb := tb 63 (by decide +kernel) rfl
theorem tw64 : Cond.static ({ cls := "java/lang/System", name := "arraycopy", desc := "(Ljava/lang/Object;ILjava/lang/Object;II)V" } : MethodName) ∈ xTb := tb 64 (by decide +kernel) rfl
theorem tw65 : Cond.native ({ cls := "java/lang/System", name := "arraycopy", desc := "(Ljava/lang/Object;ILjava/lang/Object;II)V" } : MethodName) ∈ xTb := tb 65 (by decide +kernel) rfl
theorem tw66 : Cond.fieldLink "TextMorph$State" (9 : Nat) "TextMorph$State" "settings" "[I" ∈ xTb := tb 66 (by decide +kernel) rfl
theorem tw67 : Cond.fieldLink "TextMorph$Morph" (57 : Nat) "TextMorph$State" "settings" "[I" ∈ xTb := tb 67 (by decide +kernel) rfl
theorem tw68 : Cond.fieldLink "TextMorph$Pairs" (40 : Nat) "TextMorph$State" "settings" "[I" ∈ xTb := tb 68 (by decide +kernel) rfl
theorem tw69 : Cond.fieldLink "TextMorph" (85 : Nat) "TextMorph$State" "settings" "[I" ∈ xTb := tb 69 (by decide +kernel) rfl
theorem tw70 : Cond.fieldLink "TextMorph$Motion" (108 : Nat) "TextMorph$State" "settings" "[I" ∈ xTb := tb 70 (by decide +kernel) rfl
theorem tw71 : Cond.fieldLink "TextMorph$State" (18 : Nat) "TextMorph$State" "first" "LTextMorph$Text;" ∈ xTb := tb 71 (by decide +kernel) rfl
theorem tw72 : Cond.fieldLink "TextMorph$State" (22 : Nat) "TextMorph$State" "second" "LTextMorph$Text;" ∈ xTb := tb 72 (by decide +kernel) rfl
theorem tw80 : Cond.classLink "TextMorph" (16 : Nat) "TextMorph$Morph" ∈ xTb := tb 80 (by decide +kernel) rfl
theorem tw81 : Cond.instantiable "TextMorph$Morph" (9 : Nat) ∈ xTb := tb 81 (by decide +kernel) rfl
theorem tw82 : Cond.methodLink "TextMorph" (18 : Nat) ({ cls := "TextMorph$Morph", name := "<init>", desc := "(LTextMorph$State;)V" } : MethodName) ∈ xTb := tb 82 (by decide +kernel) rfl
theorem tw83 : Cond.instanceMethod ({ cls := "TextMorph$Morph", name := "<init>", desc := "(LTextMorph$State;)V" } : MethodName) ∈ xTb := tb 83 (by decide +kernel) rfl
theorem tw84 : Cond.code ({ cls := "TextMorph$Morph", name := "<init>", desc := "(LTextMorph$State;)V" } : MethodName) prog_3_method_1_code (2 : Nat) (Option.none : Option FieldType) ∈ xTb := tb 84 (by decide +kernel) rfl
theorem tw85 : Cond.methodLink "TextMorph$Morph" (3 : Nat) ({ cls := "java/lang/Object", name := "<init>", desc := "()V" } : MethodName) ∈ xTb := tb 85 (by decide +kernel) rfl
theorem tw86 : Cond.classLink "TextMorph$Morph" (35 : Nat) "TextMorph$Pairs" ∈ xTb := tb 86 (by decide +kernel) rfl
theorem tw87 : Cond.instantiable "TextMorph$Pairs" (7 : Nat) ∈ xTb := tb 87 (by decide +kernel) rfl
theorem tw88 : Cond.methodLink "TextMorph$Morph" (37 : Nat) ({ cls := "TextMorph$Pairs", name := "<init>", desc := "(LTextMorph$State;)V" } : MethodName) ∈ xTb := tb 88 (by decide +kernel) rfl
theorem tw89 : Cond.instanceMethod ({ cls := "TextMorph$Pairs", name := "<init>", desc := "(LTextMorph$State;)V" } : MethodName) ∈ xTb := tb 89 (by decide +kernel) rfl
theorem tw90 : Cond.code ({ cls := "TextMorph$Pairs", name := "<init>", desc := "(LTextMorph$State;)V" } : MethodName) prog_5_method_1_code (2 : Nat) (Option.none : Option FieldType) ∈ xTb := tb 90 (by decide +kernel) rfl
theorem tw91 : Cond.methodLink "TextMorph$Pairs" (3 : Nat) ({ cls := "java/lang/Object", name := "<init>", desc := "()V" } : MethodName) ∈ xTb := tb 91 (by decide +kernel) rfl
theorem tw92 : Cond.fieldLink "TextMorph$Pairs" (9 : Nat) "TextMorph$Pairs" "partnerOfFirst" "[I" ∈ xTb := tb 92 (by decide +kernel) rfl
theorem tw93 : Cond.fieldLink "TextMorph$Morph" (95 : Nat) "TextMorph$Pairs" "partnerOfFirst" "[I" ∈ xTb := tb 93 (by decide +kernel) rfl
theorem tw94 : Cond.fieldLink "TextMorph$Motion" (96 : Nat) "TextMorph$Pairs" "partnerOfFirst" "[I" ∈ xTb := tb 94 (by decide +kernel) rfl
theorem tw95 : Cond.fieldLink "TextMorph$Pairs" (15 : Nat) "TextMorph$Pairs" "partnerOfSecond" "[I" ∈ xTb := tb 95 (by decide +kernel) rfl
theorem tw96 : Cond.fieldLink "TextMorph$Morph" (98 : Nat) "TextMorph$Pairs" "partnerOfSecond" "[I" ∈ xTb := tb 96 (by decide +kernel) rfl
theorem tw97 : Cond.fieldLink "TextMorph$Pairs" (18 : Nat) "TextMorph$Pairs" "kindOfFirst" "[I" ∈ xTb := tb 97 (by decide +kernel) rfl
theorem tw98 : Cond.fieldLink "TextMorph$Morph" (74 : Nat) "TextMorph$Pairs" "kindOfFirst" "[I" ∈ xTb := tb 98 (by decide +kernel) rfl
theorem tw99 : Cond.fieldLink "TextMorph$Pairs" (21 : Nat) "TextMorph$Pairs" "kindOfSecond" "[I" ∈ xTb := tb 99 (by decide +kernel) rfl
theorem tw100 : Cond.fieldLink "TextMorph$Morph" (80 : Nat) "TextMorph$Pairs" "kindOfSecond" "[I" ∈ xTb := tb 100 (by decide +kernel) rfl
theorem tw101 : Cond.fieldLink "TextMorph$Pairs" (24 : Nat) "TextMorph$Pairs" "ofKind" "[I" ∈ xTb := tb 101 (by decide +kernel) rfl
theorem tw102 : Cond.fieldLink "TextMorph$Motion" (61 : Nat) "TextMorph$Pairs" "ofKind" "[I" ∈ xTb := tb 102 (by decide +kernel) rfl
theorem tw103 : Cond.fieldLink "TextMorph$Morph" (62 : Nat) "TextMorph$Pairs" "ofKind" "[I" ∈ xTb := tb 103 (by decide +kernel) rfl
theorem tw104 : Cond.fieldLink "TextMorph" (212 : Nat) "TextMorph$Pairs" "ofKind" "[I" ∈ xTb := tb 104 (by decide +kernel) rfl
theorem tw105 : Cond.fieldLink "TextMorph$Pairs" (30 : Nat) "TextMorph$Pairs" "state" "LTextMorph$State;" ∈ xTb := tb 105 (by decide +kernel) rfl
theorem tw106 : Cond.fieldLink "TextMorph$Pairs" (27 : Nat) "TextMorph$Pairs" "longest" "[I" ∈ xTb := tb 106 (by decide +kernel) rfl
theorem tw122 : Cond.classLink "TextMorph$Morph" (44 : Nat) "TextMorph$Motion" ∈ xTb := tb 122 (by decide +kernel) rfl
theorem tw123 : Cond.instantiable "TextMorph$Motion" (13 : Nat) ∈ xTb := tb 123 (by decide +kernel) rfl
theorem tw124 : Cond.methodLink "TextMorph$Morph" (46 : Nat) ({ cls := "TextMorph$Motion", name := "<init>", desc := "(LTextMorph$State;LTextMorph$Pairs;)V" } : MethodName) ∈ xTb := tb 124 (by decide +kernel) rfl
theorem tw125 : Cond.instanceMethod ({ cls := "TextMorph$Motion", name := "<init>", desc := "(LTextMorph$State;LTextMorph$Pairs;)V" } : MethodName) ∈ xTb := tb 125 (by decide +kernel) rfl
theorem tw126 : Cond.code ({ cls := "TextMorph$Motion", name := "<init>", desc := "(LTextMorph$State;LTextMorph$Pairs;)V" } : MethodName) prog_4_method_1_code (3 : Nat) (Option.none : Option FieldType) ∈ xTb := tb 126 (by decide +kernel) rfl
theorem tw127 : Cond.methodLink "TextMorph$Motion" (3 : Nat) ({ cls := "java/lang/Object", name := "<init>", desc := "()V" } : MethodName) ∈ xTb := tb 127 (by decide +kernel) rfl
theorem tw128 : Cond.fieldLink "TextMorph$Motion" (9 : Nat) "TextMorph$Motion" "goals" "[I" ∈ xTb := tb 128 (by decide +kernel) rfl
theorem tw129 : Cond.fieldLink "TextMorph$Motion" (15 : Nat) "TextMorph$Motion" "heldFrames" "[I" ∈ xTb := tb 129 (by decide +kernel) rfl
theorem tw130 : Cond.fieldLink "TextMorph$Morph" (118 : Nat) "TextMorph$Motion" "heldFrames" "[I" ∈ xTb := tb 130 (by decide +kernel) rfl
theorem tw131 : Cond.fieldLink "TextMorph$Motion" (18 : Nat) "TextMorph$Motion" "arrivals" "[I" ∈ xTb := tb 131 (by decide +kernel) rfl
theorem tw132 : Cond.fieldLink "TextMorph$Morph" (125 : Nat) "TextMorph$Motion" "arrivals" "[I" ∈ xTb := tb 132 (by decide +kernel) rfl
theorem tw133 : Cond.fieldLink "TextMorph$Motion" (21 : Nat) "TextMorph$Motion" "frames" "I" ∈ xTb := tb 133 (by decide +kernel) rfl
theorem tw134 : Cond.fieldLink "TextMorph$Morph" (77 : Nat) "TextMorph$Motion" "frames" "I" ∈ xTb := tb 134 (by decide +kernel) rfl
theorem tw135 : Cond.fieldLink "TextMorph$Motion" (25 : Nat) "TextMorph$Motion" "heldInAll" "I" ∈ xTb := tb 135 (by decide +kernel) rfl
theorem tw136 : Cond.fieldLink "TextMorph$Morph" (92 : Nat) "TextMorph$Motion" "heldInAll" "I" ∈ xTb := tb 136 (by decide +kernel) rfl
theorem tw137 : Cond.fieldLink "TextMorph" (203 : Nat) "TextMorph$Motion" "heldInAll" "I" ∈ xTb := tb 137 (by decide +kernel) rfl
theorem tw138 : Cond.fieldLink "TextMorph$Motion" (46 : Nat) "TextMorph$Motion" "state" "LTextMorph$State;" ∈ xTb := tb 138 (by decide +kernel) rfl
theorem tw139 : Cond.fieldLink "TextMorph$Motion" (50 : Nat) "TextMorph$Motion" "pairs" "LTextMorph$Pairs;" ∈ xTb := tb 139 (by decide +kernel) rfl
theorem tw140 : Cond.fieldLink "TextMorph$Motion" (28 : Nat) "TextMorph$Motion" "cells" "[I" ∈ xTb := tb 140 (by decide +kernel) rfl
theorem tw141 : Cond.fieldLink "TextMorph$Motion" (31 : Nat) "TextMorph$Motion" "heldLately" "[I" ∈ xTb := tb 141 (by decide +kernel) rfl
theorem tw142 : Cond.fieldLink "TextMorph$Motion" (34 : Nat) "TextMorph$Motion" "piecesIn" "[I" ∈ xTb := tb 142 (by decide +kernel) rfl
theorem tw143 : Cond.fieldLink "TextMorph$Motion" (37 : Nat) "TextMorph$Motion" "heldPieces" "[I" ∈ xTb := tb 143 (by decide +kernel) rfl
theorem tw144 : Cond.fieldLink "TextMorph$Motion" (40 : Nat) "TextMorph$Motion" "track" "[I" ∈ xTb := tb 144 (by decide +kernel) rfl
theorem tw145 : Cond.fieldLink "TextMorph$Motion" (43 : Nat) "TextMorph$Motion" "away" "I" ∈ xTb := tb 145 (by decide +kernel) rfl
theorem tw173 : Cond.fieldLink "TextMorph$Morph" (40 : Nat) "TextMorph$Morph" "pairs" "LTextMorph$Pairs;" ∈ xTb := tb 173 (by decide +kernel) rfl
theorem tw174 : Cond.fieldLink "TextMorph" (208 : Nat) "TextMorph$Morph" "pairs" "LTextMorph$Pairs;" ∈ xTb := tb 174 (by decide +kernel) rfl
theorem tw175 : Cond.fieldLink "TextMorph$Morph" (49 : Nat) "TextMorph$Morph" "motion" "LTextMorph$Motion;" ∈ xTb := tb 175 (by decide +kernel) rfl
theorem tw176 : Cond.fieldLink "TextMorph" (199 : Nat) "TextMorph$Morph" "motion" "LTextMorph$Motion;" ∈ xTb := tb 176 (by decide +kernel) rfl
theorem tw177 : Cond.fieldLink "TextMorph$Morph" (31 : Nat) "TextMorph$Morph" "state" "LTextMorph$State;" ∈ xTb := tb 177 (by decide +kernel) rfl
theorem tw178 : Cond.fieldLink "TextMorph$Morph" (9 : Nat) "TextMorph$Morph" "goneFrom" "[I" ∈ xTb := tb 178 (by decide +kernel) rfl
theorem tw179 : Cond.fieldLink "TextMorph$Morph" (15 : Nat) "TextMorph$Morph" "thereFrom" "[I" ∈ xTb := tb 179 (by decide +kernel) rfl
theorem tw180 : Cond.fieldLink "TextMorph$Morph" (18 : Nat) "TextMorph$Morph" "shown" "[I" ∈ xTb := tb 180 (by decide +kernel) rfl
theorem tw181 : Cond.fieldLink "TextMorph$Morph" (21 : Nat) "TextMorph$Morph" "shownBefore" "[I" ∈ xTb := tb 181 (by decide +kernel) rfl
theorem tw182 : Cond.fieldLink "TextMorph$Morph" (24 : Nat) "TextMorph$Morph" "piecesIn" "[I" ∈ xTb := tb 182 (by decide +kernel) rfl
theorem tw183 : Cond.fieldLink "TextMorph$Morph" (27 : Nat) "TextMorph$Morph" "stillFrames" "I" ∈ xTb := tb 183 (by decide +kernel) rfl
theorem tw204 : Cond.classLink "TextMorph" (35 : Nat) "TextMorph$Buffer" ∈ xTb := tb 204 (by decide +kernel) rfl
theorem tw205 : Cond.instantiable "TextMorph$Buffer" (3 : Nat) ∈ xTb := tb 205 (by decide +kernel) rfl
theorem tw206 : Cond.methodLink "TextMorph" (37 : Nat) ({ cls := "TextMorph$Buffer", name := "<init>", desc := "()V" } : MethodName) ∈ xTb := tb 206 (by decide +kernel) rfl
theorem tw207 : Cond.instanceMethod ({ cls := "TextMorph$Buffer", name := "<init>", desc := "()V" } : MethodName) ∈ xTb := tb 207 (by decide +kernel) rfl
theorem tw208 : Cond.code ({ cls := "TextMorph$Buffer", name := "<init>", desc := "()V" } : MethodName) prog_2_method_1_code (1 : Nat) (Option.none : Option FieldType) ∈ xTb := tb 208 (by decide +kernel) rfl
theorem tw209 : Cond.methodLink "TextMorph$Buffer" (3 : Nat) ({ cls := "java/lang/Object", name := "<init>", desc := "()V" } : MethodName) ∈ xTb := tb 209 (by decide +kernel) rfl
theorem tw210 : Cond.fieldLink "TextMorph$Buffer" (9 : Nat) "TextMorph$Buffer" "signs" "[I" ∈ xTb := tb 210 (by decide +kernel) rfl
theorem tw211 : Cond.fieldLink "TextMorph" (150 : Nat) "TextMorph$Buffer" "signs" "[I" ∈ xTb := tb 211 (by decide +kernel) rfl
theorem tw212 : Cond.fieldLink "TextMorph$Buffer" (15 : Nat) "TextMorph$Buffer" "cells" "[I" ∈ xTb := tb 212 (by decide +kernel) rfl
theorem tw213 : Cond.fieldLink "TextMorph" (103 : Nat) "TextMorph$Buffer" "cells" "[I" ∈ xTb := tb 213 (by decide +kernel) rfl
theorem tw214 : Cond.fieldLink "TextMorph$Buffer" (18 : Nat) "TextMorph$Buffer" "length" "I" ∈ xTb := tb 214 (by decide +kernel) rfl
theorem tw215 : Cond.fieldLink "TextMorph" (98 : Nat) "TextMorph$Buffer" "length" "I" ∈ xTb := tb 215 (by decide +kernel) rfl
theorem tw223 : Cond.fieldLink "TextMorph" (12 : Nat) "TextMorph" "state" "LTextMorph$State;" ∈ xTb := tb 223 (by decide +kernel) rfl
theorem tw224 : Cond.fieldLink "TextMorph" (21 : Nat) "TextMorph" "morph" "LTextMorph$Morph;" ∈ xTb := tb 224 (by decide +kernel) rfl
theorem tw225 : Cond.fieldLink "TextMorph" (25 : Nat) "TextMorph" "tried" "LTextMorph$State;" ∈ xTb := tb 225 (by decide +kernel) rfl
theorem tw226 : Cond.fieldLink "TextMorph" (28 : Nat) "TextMorph" "trial" "LTextMorph$Morph;" ∈ xTb := tb 226 (by decide +kernel) rfl
theorem tw227 : Cond.fieldLink "TextMorph" (31 : Nat) "TextMorph" "saved" "[LTextMorph$State;" ∈ xTb := tb 227 (by decide +kernel) rfl
theorem tw228 : Cond.fieldLink "TextMorph" (38 : Nat) "TextMorph" "buffer" "LTextMorph$Buffer;" ∈ xTb := tb 228 (by decide +kernel) rfl
theorem tw229 : Cond.fieldLink "TextMorph" (42 : Nat) "TextMorph" "savedStates" "I" ∈ xTb := tb 229 (by decide +kernel) rfl
theorem tw230 : Cond.fieldLink "TextMorph" (46 : Nat) "TextMorph" "stale" "Z" ∈ xTb := tb 230 (by decide +kernel) rfl
theorem tw248 : Cond.methodLink "TextMorphLaw" (63 : Nat) ({ cls := "TextMorph", name := "begin", desc := "()I" } : MethodName) ∈ xTb := tb 248 (by decide +kernel) rfl
theorem tw249 : Cond.instanceMethod ({ cls := "TextMorph", name := "begin", desc := "()I" } : MethodName) ∈ xTb := tb 249 (by decide +kernel) rfl
theorem tw250 : Cond.selects "TextMorph" ({ cls := "TextMorph", name := "begin", desc := "()I" } : MethodName) ({ cls := "TextMorph", name := "begin", desc := "()I" } : MethodName) ∈ xTb := tb 250 (by decide +kernel) rfl
theorem tw251 : Cond.code ({ cls := "TextMorph", name := "begin", desc := "()I" } : MethodName) prog_1_method_2_code (2 : Nat) (Option.some FieldType.int) ∈ xTb := tb 251 (by decide +kernel) rfl
theorem tw252 : Cond.methodLink "TextMorph" (50 : Nat) ({ cls := "TextMorph", name := "save", desc := "()V" } : MethodName) ∈ xTb := tb 252 (by decide +kernel) rfl
theorem tw254 : Cond.instanceMethod ({ cls := "TextMorph", name := "save", desc := "()V" } : MethodName) ∈ xTb := tb 254 (by decide +kernel) rfl
theorem tw255 : Cond.code ({ cls := "TextMorph", name := "save", desc := "()V" } : MethodName) prog_1_method_27_code (3 : Nat) (Option.none : Option FieldType) ∈ xTb := tb 255 (by decide +kernel) rfl
theorem tw256 : Cond.methodLink "TextMorph" (143 : Nat) ({ cls := "TextMorph$State", name := "copyFrom", desc := "(LTextMorph$State;)V" } : MethodName) ∈ xTb := tb 256 (by decide +kernel) rfl
theorem tw257 : Cond.instanceMethod ({ cls := "TextMorph$State", name := "copyFrom", desc := "(LTextMorph$State;)V" } : MethodName) ∈ xTb := tb 257 (by decide +kernel) rfl
theorem tw258 : Cond.selects "TextMorph$State" ({ cls := "TextMorph$State", name := "copyFrom", desc := "(LTextMorph$State;)V" } : MethodName) ({ cls := "TextMorph$State", name := "copyFrom", desc := "(LTextMorph$State;)V" } : MethodName) ∈ xTb := tb 258 (by decide +kernel) rfl
theorem tw259 : Cond.code ({ cls := "TextMorph$State", name := "copyFrom", desc := "(LTextMorph$State;)V" } : MethodName) prog_6_method_4_code (2 : Nat) (Option.none : Option FieldType) ∈ xTb := tb 259 (by decide +kernel) rfl
theorem tw260 : Cond.methodLink "TextMorph$State" (37 : Nat) ({ cls := "TextMorph$Text", name := "copyFrom", desc := "(LTextMorph$Text;)V" } : MethodName) ∈ xTb := tb 260 (by decide +kernel) rfl
theorem tw261 : Cond.instanceMethod ({ cls := "TextMorph$Text", name := "copyFrom", desc := "(LTextMorph$Text;)V" } : MethodName) ∈ xTb := tb 261 (by decide +kernel) rfl
theorem tw262 : Cond.selects "TextMorph$Text" ({ cls := "TextMorph$Text", name := "copyFrom", desc := "(LTextMorph$Text;)V" } : MethodName) ({ cls := "TextMorph$Text", name := "copyFrom", desc := "(LTextMorph$Text;)V" } : MethodName) ∈ xTb := tb 262 (by decide +kernel) rfl
theorem tw263 : Cond.code ({ cls := "TextMorph$Text", name := "copyFrom", desc := "(LTextMorph$Text;)V" } : MethodName) prog_7_method_4_code (2 : Nat) (Option.none : Option FieldType) ∈ xTb := tb 263 (by decide +kernel) rfl
theorem tw264 : Cond.methodLink "TextMorph$Text" (28 : Nat) ({ cls := "java/lang/System", name := "arraycopy", desc := "(Ljava/lang/Object;ILjava/lang/Object;II)V" } : MethodName) ∈ xTb := tb 264 (by decide +kernel) rfl
theorem tw265 : Cond.methodLink "TextMorph" (53 : Nat) ({ cls := "TextMorph$State", name := "text", desc := "(I)LTextMorph$Text;" } : MethodName) ∈ xTb := tb 265 (by decide +kernel) rfl
theorem tw266 : Cond.instanceMethod ({ cls := "TextMorph$State", name := "text", desc := "(I)LTextMorph$Text;" } : MethodName) ∈ xTb := tb 266 (by decide +kernel) rfl
theorem tw267 : Cond.selects "TextMorph$State" ({ cls := "TextMorph$State", name := "text", desc := "(I)LTextMorph$Text;" } : MethodName) ({ cls := "TextMorph$State", name := "text", desc := "(I)LTextMorph$Text;" } : MethodName) ∈ xTb := tb 267 (by decide +kernel) rfl
theorem tw268 : Cond.code ({ cls := "TextMorph$State", name := "text", desc := "(I)LTextMorph$Text;" } : MethodName) prog_6_method_2_code (2 : Nat) (Option.some (FieldType.object "TextMorph$Text")) ∈ xTb := tb 268 (by decide +kernel) rfl
theorem tw269 : Cond.methodLink "TextMorph" (62 : Nat) ({ cls := "TextMorph$State", name := "clear", desc := "()V" } : MethodName) ∈ xTb := tb 269 (by decide +kernel) rfl
theorem tw270 : Cond.instanceMethod ({ cls := "TextMorph$State", name := "clear", desc := "()V" } : MethodName) ∈ xTb := tb 270 (by decide +kernel) rfl
theorem tw271 : Cond.selects "TextMorph$State" ({ cls := "TextMorph$State", name := "clear", desc := "()V" } : MethodName) ({ cls := "TextMorph$State", name := "clear", desc := "()V" } : MethodName) ∈ xTb := tb 271 (by decide +kernel) rfl
theorem tw272 : Cond.code ({ cls := "TextMorph$State", name := "clear", desc := "()V" } : MethodName) prog_6_method_3_code (1 : Nat) (Option.none : Option FieldType) ∈ xTb := tb 272 (by decide +kernel) rfl
theorem tw273 : Cond.methodLink "TextMorph$State" (34 : Nat) ({ cls := "TextMorph$Text", name := "clear", desc := "()V" } : MethodName) ∈ xTb := tb 273 (by decide +kernel) rfl
theorem tw274 : Cond.instanceMethod ({ cls := "TextMorph$Text", name := "clear", desc := "()V" } : MethodName) ∈ xTb := tb 274 (by decide +kernel) rfl
theorem tw275 : Cond.selects "TextMorph$Text" ({ cls := "TextMorph$Text", name := "clear", desc := "()V" } : MethodName) ({ cls := "TextMorph$Text", name := "clear", desc := "()V" } : MethodName) ∈ xTb := tb 275 (by decide +kernel) rfl
theorem tw276 : Cond.code ({ cls := "TextMorph$Text", name := "clear", desc := "()V" } : MethodName) prog_7_method_2_code (1 : Nat) (Option.none : Option FieldType) ∈ xTb := tb 276 (by decide +kernel) rfl
theorem tw277 : Cond.methodLink "TextMorphLaw" (84 : Nat) ({ cls := "TextMorph", name := "swap", desc := "()I" } : MethodName) ∈ xTb := tb 277 (by decide +kernel) rfl
theorem tw278 : Cond.instanceMethod ({ cls := "TextMorph", name := "swap", desc := "()I" } : MethodName) ∈ xTb := tb 278 (by decide +kernel) rfl
theorem tw279 : Cond.selects "TextMorph" ({ cls := "TextMorph", name := "swap", desc := "()I" } : MethodName) ({ cls := "TextMorph", name := "swap", desc := "()I" } : MethodName) ∈ xTb := tb 279 (by decide +kernel) rfl
theorem tw280 : Cond.code ({ cls := "TextMorph", name := "swap", desc := "()I" } : MethodName) prog_1_method_6_code (1 : Nat) (Option.some FieldType.int) ∈ xTb := tb 280 (by decide +kernel) rfl
theorem tw281 : Cond.methodLink "TextMorph" (132 : Nat) ({ cls := "TextMorph$State", name := "exchangeTexts", desc := "()V" } : MethodName) ∈ xTb := tb 281 (by decide +kernel) rfl
theorem tw282 : Cond.instanceMethod ({ cls := "TextMorph$State", name := "exchangeTexts", desc := "()V" } : MethodName) ∈ xTb := tb 282 (by decide +kernel) rfl
theorem tw283 : Cond.selects "TextMorph$State" ({ cls := "TextMorph$State", name := "exchangeTexts", desc := "()V" } : MethodName) ({ cls := "TextMorph$State", name := "exchangeTexts", desc := "()V" } : MethodName) ∈ xTb := tb 283 (by decide +kernel) rfl
theorem tw284 : Cond.code ({ cls := "TextMorph$State", name := "exchangeTexts", desc := "()V" } : MethodName) prog_6_method_5_code (2 : Nat) (Option.none : Option FieldType) ∈ xTb := tb 284 (by decide +kernel) rfl
theorem tw285 : Cond.methodLink "TextMorph" (135 : Nat) ({ cls := "TextMorph", name := "refresh", desc := "()V" } : MethodName) ∈ xTb := tb 285 (by decide +kernel) rfl
theorem tw287 : Cond.instanceMethod ({ cls := "TextMorph", name := "refresh", desc := "()V" } : MethodName) ∈ xTb := tb 287 (by decide +kernel) rfl
theorem tw288 : Cond.code ({ cls := "TextMorph", name := "refresh", desc := "()V" } : MethodName) prog_1_method_28_code (1 : Nat) (Option.none : Option FieldType) ∈ xTb := tb 288 (by decide +kernel) rfl
theorem tw289 : Cond.methodLink "TextMorph" (196 : Nat) ({ cls := "TextMorph$Morph", name := "work", desc := "()V" } : MethodName) ∈ xTb := tb 289 (by decide +kernel) rfl
theorem tw290 : Cond.instanceMethod ({ cls := "TextMorph$Morph", name := "work", desc := "()V" } : MethodName) ∈ xTb := tb 290 (by decide +kernel) rfl
theorem tw291 : Cond.selects "TextMorph$Morph" ({ cls := "TextMorph$Morph", name := "work", desc := "()V" } : MethodName) ({ cls := "TextMorph$Morph", name := "work", desc := "()V" } : MethodName) ∈ xTb := tb 291 (by decide +kernel) rfl
theorem tw292 : Cond.code ({ cls := "TextMorph$Morph", name := "work", desc := "()V" } : MethodName) prog_3_method_2_code (3 : Nat) (Option.none : Option FieldType) ∈ xTb := tb 292 (by decide +kernel) rfl
theorem tw293 : Cond.methodLink "TextMorph$Morph" (53 : Nat) ({ cls := "TextMorph$Pairs", name := "work", desc := "()V" } : MethodName) ∈ xTb := tb 293 (by decide +kernel) rfl
theorem tw294 : Cond.instanceMethod ({ cls := "TextMorph$Pairs", name := "work", desc := "()V" } : MethodName) ∈ xTb := tb 294 (by decide +kernel) rfl
theorem tw295 : Cond.selects "TextMorph$Pairs" ({ cls := "TextMorph$Pairs", name := "work", desc := "()V" } : MethodName) ({ cls := "TextMorph$Pairs", name := "work", desc := "()V" } : MethodName) ∈ xTb := tb 295 (by decide +kernel) rfl
theorem tw296 : Cond.code ({ cls := "TextMorph$Pairs", name := "work", desc := "()V" } : MethodName) prog_5_method_2_code (3 : Nat) (Option.none : Option FieldType) ∈ xTb := tb 296 (by decide +kernel) rfl
theorem tw297 : Cond.methodLink "TextMorph$Pairs" (34 : Nat) ({ cls := "TextMorph$Pairs", name := "unpairAll", desc := "()V" } : MethodName) ∈ xTb := tb 297 (by decide +kernel) rfl
theorem tw299 : Cond.instanceMethod ({ cls := "TextMorph$Pairs", name := "unpairAll", desc := "()V" } : MethodName) ∈ xTb := tb 299 (by decide +kernel) rfl
theorem tw300 : Cond.code ({ cls := "TextMorph$Pairs", name := "unpairAll", desc := "()V" } : MethodName) prog_5_method_4_code (1 : Nat) (Option.none : Option FieldType) ∈ xTb := tb 300 (by decide +kernel) rfl
theorem tw301 : Cond.methodLink "TextMorph$Pairs" (67 : Nat) ({ cls := "java/util/Arrays", name := "fill", desc := "([II)V" } : MethodName) ∈ xTb := tb 301 (by decide +kernel) rfl
theorem tw302 : Cond.methodLink "TextMorph$Pairs" (49 : Nat) ({ cls := "TextMorph$State", name := "text", desc := "(I)LTextMorph$Text;" } : MethodName) ∈ xTb := tb 302 (by decide +kernel) rfl
theorem tw303 : Cond.methodLink "TextMorph$Pairs" (37 : Nat) ({ cls := "TextMorph$Pairs", name := "pairCommon", desc := "()V" } : MethodName) ∈ xTb := tb 303 (by decide +kernel) rfl
theorem tw305 : Cond.instanceMethod ({ cls := "TextMorph$Pairs", name := "pairCommon", desc := "()V" } : MethodName) ∈ xTb := tb 305 (by decide +kernel) rfl
theorem tw306 : Cond.code ({ cls := "TextMorph$Pairs", name := "pairCommon", desc := "()V" } : MethodName) prog_5_method_6_code (5 : Nat) (Option.none : Option FieldType) ∈ xTb := tb 306 (by decide +kernel) rfl
theorem tw307 : Cond.methodLink "TextMorph$Pairs" (77 : Nat) ({ cls := "TextMorph$Pairs", name := "measureLongest", desc := "()V" } : MethodName) ∈ xTb := tb 307 (by decide +kernel) rfl
theorem tw309 : Cond.instanceMethod ({ cls := "TextMorph$Pairs", name := "measureLongest", desc := "()V" } : MethodName) ∈ xTb := tb 309 (by decide +kernel) rfl
theorem tw310 : Cond.code ({ cls := "TextMorph$Pairs", name := "measureLongest", desc := "()V" } : MethodName) prog_5_method_7_code (6 : Nat) (Option.none : Option FieldType) ∈ xTb := tb 310 (by decide +kernel) rfl
theorem tw311 : Cond.methodLink "TextMorph$Pairs" (88 : Nat) ({ cls := "TextMorph$Text", name := "codeOf", desc := "(I)I" } : MethodName) ∈ xTb := tb 311 (by decide +kernel) rfl
theorem tw312 : Cond.instanceMethod ({ cls := "TextMorph$Text", name := "codeOf", desc := "(I)I" } : MethodName) ∈ xTb := tb 312 (by decide +kernel) rfl
theorem tw313 : Cond.selects "TextMorph$Text" ({ cls := "TextMorph$Text", name := "codeOf", desc := "(I)I" } : MethodName) ({ cls := "TextMorph$Text", name := "codeOf", desc := "(I)I" } : MethodName) ∈ xTb := tb 313 (by decide +kernel) rfl
theorem tw314 : Cond.code ({ cls := "TextMorph$Text", name := "codeOf", desc := "(I)I" } : MethodName) prog_7_method_8_code (2 : Nat) (Option.some FieldType.int) ∈ xTb := tb 314 (by decide +kernel) rfl
theorem tw315 : Cond.methodLink "TextMorph$Pairs" (91 : Nat) ({ cls := "java/lang/Math", name := "max", desc := "(II)I" } : MethodName) ∈ xTb := tb 315 (by decide +kernel) rfl
theorem tw316 : Cond.static ({ cls := "java/lang/Math", name := "max", desc := "(II)I" } : MethodName) ∈ xTb := tb 316 (by decide +kernel) rfl
theorem tw317 : Cond.code ({ cls := "java/lang/Math", name := "max", desc := "(II)I" } : MethodName) prog_15_method_65_code (2 : Nat) (Option.some FieldType.int) ∈ xTb := tb 317 (by decide +kernel) rfl
theorem tw318 : Cond.methodLink "TextMorph$Pairs" (80 : Nat) ({ cls := "TextMorph$Pairs", name := "partnerThatLeaves", desc := "(III)I" } : MethodName) ∈ xTb := tb 318 (by decide +kernel) rfl
theorem tw320 : Cond.instanceMethod ({ cls := "TextMorph$Pairs", name := "partnerThatLeaves", desc := "(III)I" } : MethodName) ∈ xTb := tb 320 (by decide +kernel) rfl
theorem tw321 : Cond.code ({ cls := "TextMorph$Pairs", name := "partnerThatLeaves", desc := "(III)I" } : MethodName) prog_5_method_8_code (6 : Nat) (Option.some FieldType.int) ∈ xTb := tb 321 (by decide +kernel) rfl
theorem tw322 : Cond.methodLink "TextMorph$Pairs" (84 : Nat) ({ cls := "TextMorph$Pairs", name := "pair", desc := "(III)V" } : MethodName) ∈ xTb := tb 322 (by decide +kernel) rfl
theorem tw324 : Cond.instanceMethod ({ cls := "TextMorph$Pairs", name := "pair", desc := "(III)V" } : MethodName) ∈ xTb := tb 324 (by decide +kernel) rfl
theorem tw325 : Cond.code ({ cls := "TextMorph$Pairs", name := "pair", desc := "(III)V" } : MethodName) prog_5_method_5_code (4 : Nat) (Option.none : Option FieldType) ∈ xTb := tb 325 (by decide +kernel) rfl
theorem tw326 : Cond.methodLink "TextMorph$Pairs" (45 : Nat) ({ cls := "TextMorph$Pairs", name := "pairNearest", desc := "(II)Z" } : MethodName) ∈ xTb := tb 326 (by decide +kernel) rfl
theorem tw328 : Cond.instanceMethod ({ cls := "TextMorph$Pairs", name := "pairNearest", desc := "(II)Z" } : MethodName) ∈ xTb := tb 328 (by decide +kernel) rfl
theorem tw329 : Cond.code ({ cls := "TextMorph$Pairs", name := "pairNearest", desc := "(II)Z" } : MethodName) prog_5_method_9_code (8 : Nat) (Option.some FieldType.boolean) ∈ xTb := tb 329 (by decide +kernel) rfl
theorem tw330 : Cond.methodLink "TextMorph$Pairs" (95 : Nat) ({ cls := "TextMorph$Pairs", name := "mayBePaired", desc := "(III)Z" } : MethodName) ∈ xTb := tb 330 (by decide +kernel) rfl
theorem tw332 : Cond.instanceMethod ({ cls := "TextMorph$Pairs", name := "mayBePaired", desc := "(III)Z" } : MethodName) ∈ xTb := tb 332 (by decide +kernel) rfl
theorem tw333 : Cond.code ({ cls := "TextMorph$Pairs", name := "mayBePaired", desc := "(III)Z" } : MethodName) prog_5_method_10_code (4 : Nat) (Option.some FieldType.boolean) ∈ xTb := tb 333 (by decide +kernel) rfl
theorem tw334 : Cond.methodLink "TextMorph$Pairs" (64 : Nat) ({ cls := "TextMorph$Text", name := "rowOf", desc := "(I)I" } : MethodName) ∈ xTb := tb 334 (by decide +kernel) rfl
theorem tw335 : Cond.instanceMethod ({ cls := "TextMorph$Text", name := "rowOf", desc := "(I)I" } : MethodName) ∈ xTb := tb 335 (by decide +kernel) rfl
theorem tw336 : Cond.selects "TextMorph$Text" ({ cls := "TextMorph$Text", name := "rowOf", desc := "(I)I" } : MethodName) ({ cls := "TextMorph$Text", name := "rowOf", desc := "(I)I" } : MethodName) ∈ xTb := tb 336 (by decide +kernel) rfl
theorem tw337 : Cond.code ({ cls := "TextMorph$Text", name := "rowOf", desc := "(I)I" } : MethodName) prog_7_method_6_code (2 : Nat) (Option.some FieldType.int) ∈ xTb := tb 337 (by decide +kernel) rfl
theorem tw338 : Cond.methodLink "TextMorph$Pairs" (99 : Nat) ({ cls := "TextMorph$Pairs", name := "distance", desc := "(II)I" } : MethodName) ∈ xTb := tb 338 (by decide +kernel) rfl
theorem tw339 : Cond.instanceMethod ({ cls := "TextMorph$Pairs", name := "distance", desc := "(II)I" } : MethodName) ∈ xTb := tb 339 (by decide +kernel) rfl
theorem tw340 : Cond.selects "TextMorph$Pairs" ({ cls := "TextMorph$Pairs", name := "distance", desc := "(II)I" } : MethodName) ({ cls := "TextMorph$Pairs", name := "distance", desc := "(II)I" } : MethodName) ∈ xTb := tb 340 (by decide +kernel) rfl
theorem tw341 : Cond.code ({ cls := "TextMorph$Pairs", name := "distance", desc := "(II)I" } : MethodName) prog_5_method_3_code (5 : Nat) (Option.some FieldType.int) ∈ xTb := tb 341 (by decide +kernel) rfl
theorem tw342 : Cond.methodLink "TextMorph$Pairs" (53 : Nat) ({ cls := "TextMorph$Text", name := "columnOf", desc := "(I)I" } : MethodName) ∈ xTb := tb 342 (by decide +kernel) rfl
theorem tw343 : Cond.instanceMethod ({ cls := "TextMorph$Text", name := "columnOf", desc := "(I)I" } : MethodName) ∈ xTb := tb 343 (by decide +kernel) rfl
theorem tw344 : Cond.selects "TextMorph$Text" ({ cls := "TextMorph$Text", name := "columnOf", desc := "(I)I" } : MethodName) ({ cls := "TextMorph$Text", name := "columnOf", desc := "(I)I" } : MethodName) ∈ xTb := tb 344 (by decide +kernel) rfl
theorem tw345 : Cond.code ({ cls := "TextMorph$Text", name := "columnOf", desc := "(I)I" } : MethodName) prog_7_method_7_code (2 : Nat) (Option.some FieldType.int) ∈ xTb := tb 345 (by decide +kernel) rfl
theorem tw346 : Cond.methodLink "TextMorph$Pairs" (59 : Nat) ({ cls := "java/lang/Math", name := "abs", desc := "(I)I" } : MethodName) ∈ xTb := tb 346 (by decide +kernel) rfl
theorem tw347 : Cond.static ({ cls := "java/lang/Math", name := "abs", desc := "(I)I" } : MethodName) ∈ xTb := tb 347 (by decide +kernel) rfl
theorem tw348 : Cond.code ({ cls := "java/lang/Math", name := "abs", desc := "(I)I" } : MethodName) prog_15_method_59_code (1 : Nat) (Option.some FieldType.int) ∈ xTb := tb 348 (by decide +kernel) rfl
theorem tw349 : Cond.methodLink "TextMorph$Morph" (56 : Nat) ({ cls := "TextMorph$Motion", name := "work", desc := "()V" } : MethodName) ∈ xTb := tb 349 (by decide +kernel) rfl
theorem tw350 : Cond.instanceMethod ({ cls := "TextMorph$Motion", name := "work", desc := "()V" } : MethodName) ∈ xTb := tb 350 (by decide +kernel) rfl
theorem tw351 : Cond.selects "TextMorph$Motion" ({ cls := "TextMorph$Motion", name := "work", desc := "()V" } : MethodName) ({ cls := "TextMorph$Motion", name := "work", desc := "()V" } : MethodName) ∈ xTb := tb 351 (by decide +kernel) rfl
theorem tw352 : Cond.code ({ cls := "TextMorph$Motion", name := "work", desc := "()V" } : MethodName) prog_4_method_2_code (4 : Nat) (Option.none : Option FieldType) ∈ xTb := tb 352 (by decide +kernel) rfl
theorem tw353 : Cond.methodLink "TextMorph$Motion" (54 : Nat) ({ cls := "TextMorph$Motion", name := "start", desc := "()V" } : MethodName) ∈ xTb := tb 353 (by decide +kernel) rfl
theorem tw355 : Cond.instanceMethod ({ cls := "TextMorph$Motion", name := "start", desc := "()V" } : MethodName) ∈ xTb := tb 355 (by decide +kernel) rfl
theorem tw356 : Cond.code ({ cls := "TextMorph$Motion", name := "start", desc := "()V" } : MethodName) prog_4_method_6_code (3 : Nat) (Option.none : Option FieldType) ∈ xTb := tb 356 (by decide +kernel) rfl
theorem tw357 : Cond.methodLink "TextMorph$Motion" (89 : Nat) ({ cls := "java/util/Arrays", name := "fill", desc := "([II)V" } : MethodName) ∈ xTb := tb 357 (by decide +kernel) rfl
theorem tw358 : Cond.methodLink "TextMorph$Motion" (66 : Nat) ({ cls := "TextMorph$State", name := "text", desc := "(I)LTextMorph$Text;" } : MethodName) ∈ xTb := tb 358 (by decide +kernel) rfl
theorem tw359 : Cond.methodLink "TextMorph$Motion" (77 : Nat) ({ cls := "TextMorph$Motion", name := "isAway", desc := "(I)Z" } : MethodName) ∈ xTb := tb 359 (by decide +kernel) rfl
theorem tw361 : Cond.instanceMethod ({ cls := "TextMorph$Motion", name := "isAway", desc := "(I)Z" } : MethodName) ∈ xTb := tb 361 (by decide +kernel) rfl
theorem tw362 : Cond.code ({ cls := "TextMorph$Motion", name := "isAway", desc := "(I)Z" } : MethodName) prog_4_method_8_code (2 : Nat) (Option.some FieldType.boolean) ∈ xTb := tb 362 (by decide +kernel) rfl
theorem tw363 : Cond.methodLink "TextMorph$Motion" (57 : Nat) ({ cls := "TextMorph$Motion", name := "record", desc := "(I)V" } : MethodName) ∈ xTb := tb 363 (by decide +kernel) rfl
theorem tw365 : Cond.instanceMethod ({ cls := "TextMorph$Motion", name := "record", desc := "(I)V" } : MethodName) ∈ xTb := tb 365 (by decide +kernel) rfl
theorem tw366 : Cond.code ({ cls := "TextMorph$Motion", name := "record", desc := "(I)V" } : MethodName) prog_4_method_7_code (2 : Nat) (Option.none : Option FieldType) ∈ xTb := tb 366 (by decide +kernel) rfl
theorem tw367 : Cond.methodLink "TextMorph$Motion" (99 : Nat) ({ cls := "java/lang/System", name := "arraycopy", desc := "(Ljava/lang/Object;ILjava/lang/Object;II)V" } : MethodName) ∈ xTb := tb 367 (by decide +kernel) rfl
theorem tw368 : Cond.methodLink "TextMorph$Motion" (81 : Nat) ({ cls := "TextMorph$Motion", name := "moveOrHold", desc := "(II)V" } : MethodName) ∈ xTb := tb 368 (by decide +kernel) rfl
theorem tw370 : Cond.instanceMethod ({ cls := "TextMorph$Motion", name := "moveOrHold", desc := "(II)V" } : MethodName) ∈ xTb := tb 370 (by decide +kernel) rfl
theorem tw371 : Cond.code ({ cls := "TextMorph$Motion", name := "moveOrHold", desc := "(II)V" } : MethodName) prog_4_method_9_code (4 : Nat) (Option.none : Option FieldType) ∈ xTb := tb 371 (by decide +kernel) rfl
theorem tw372 : Cond.methodLink "TextMorph$Motion" (105 : Nat) ({ cls := "TextMorph$Motion", name := "nextCell", desc := "(II)I" } : MethodName) ∈ xTb := tb 372 (by decide +kernel) rfl
theorem tw374 : Cond.instanceMethod ({ cls := "TextMorph$Motion", name := "nextCell", desc := "(II)I" } : MethodName) ∈ xTb := tb 374 (by decide +kernel) rfl
theorem tw375 : Cond.code ({ cls := "TextMorph$Motion", name := "nextCell", desc := "(II)I" } : MethodName) prog_4_method_10_code (5 : Nat) (Option.some FieldType.int) ∈ xTb := tb 375 (by decide +kernel) rfl
theorem tw376 : Cond.methodLink "TextMorph$Motion" (111 : Nat) ({ cls := "java/lang/Math", name := "abs", desc := "(I)I" } : MethodName) ∈ xTb := tb 376 (by decide +kernel) rfl
theorem tw377 : Cond.methodLink "TextMorph$Motion" (117 : Nat) ({ cls := "TextMorph$Motion", name := "goesAlongRow", desc := "(II)Z" } : MethodName) ∈ xTb := tb 377 (by decide +kernel) rfl
theorem tw379 : Cond.instanceMethod ({ cls := "TextMorph$Motion", name := "goesAlongRow", desc := "(II)Z" } : MethodName) ∈ xTb := tb 379 (by decide +kernel) rfl
theorem tw380 : Cond.code ({ cls := "TextMorph$Motion", name := "goesAlongRow", desc := "(II)Z" } : MethodName) prog_4_method_11_code (3 : Nat) (Option.some FieldType.boolean) ∈ xTb := tb 380 (by decide +kernel) rfl
theorem tw381 : Cond.methodLink "TextMorph$Morph" (65 : Nat) ({ cls := "TextMorph$State", name := "text", desc := "(I)LTextMorph$Text;" } : MethodName) ∈ xTb := tb 381 (by decide +kernel) rfl
theorem tw382 : Cond.methodLink "TextMorph" (138 : Nat) ({ cls := "TextMorph$Morph", name := "frames", desc := "()I" } : MethodName) ∈ xTb := tb 382 (by decide +kernel) rfl
theorem tw383 : Cond.instanceMethod ({ cls := "TextMorph$Morph", name := "frames", desc := "()I" } : MethodName) ∈ xTb := tb 383 (by decide +kernel) rfl
theorem tw384 : Cond.selects "TextMorph$Morph" ({ cls := "TextMorph$Morph", name := "frames", desc := "()I" } : MethodName) ({ cls := "TextMorph$Morph", name := "frames", desc := "()I" } : MethodName) ∈ xTb := tb 384 (by decide +kernel) rfl
theorem tw385 : Cond.code ({ cls := "TextMorph$Morph", name := "frames", desc := "()I" } : MethodName) prog_3_method_3_code (1 : Nat) (Option.some FieldType.int) ∈ xTb := tb 385 (by decide +kernel) rfl
theorem tw386 : Cond.methodLink "TextMorphLaw" (95 : Nat) ({ cls := "TextMorph", name := "clearBuffer", desc := "()I" } : MethodName) ∈ xTb := tb 386 (by decide +kernel) rfl
theorem tw387 : Cond.instanceMethod ({ cls := "TextMorph", name := "clearBuffer", desc := "()I" } : MethodName) ∈ xTb := tb 387 (by decide +kernel) rfl
theorem tw388 : Cond.selects "TextMorph" ({ cls := "TextMorph", name := "clearBuffer", desc := "()I" } : MethodName) ({ cls := "TextMorph", name := "clearBuffer", desc := "()I" } : MethodName) ∈ xTb := tb 388 (by decide +kernel) rfl
theorem tw389 : Cond.code ({ cls := "TextMorph", name := "clearBuffer", desc := "()I" } : MethodName) prog_1_method_9_code (2 : Nat) (Option.some FieldType.int) ∈ xTb := tb 389 (by decide +kernel) rfl
theorem tw390 : Cond.methodLink "TextMorphLaw" (99 : Nat) ({ cls := "TextMorph", name := "firstError", desc := "()I" } : MethodName) ∈ xTb := tb 390 (by decide +kernel) rfl
theorem tw391 : Cond.instanceMethod ({ cls := "TextMorph", name := "firstError", desc := "()I" } : MethodName) ∈ xTb := tb 391 (by decide +kernel) rfl
theorem tw392 : Cond.selects "TextMorph" ({ cls := "TextMorph", name := "firstError", desc := "()I" } : MethodName) ({ cls := "TextMorph", name := "firstError", desc := "()I" } : MethodName) ∈ xTb := tb 392 (by decide +kernel) rfl
theorem tw393 : Cond.code ({ cls := "TextMorph", name := "firstError", desc := "()I" } : MethodName) prog_1_method_10_code (1 : Nat) (Option.some FieldType.int) ∈ xTb := tb 393 (by decide +kernel) rfl
theorem tw394 : Cond.methodLink "TextMorph" (94 : Nat) ({ cls := "TextMorph$Buffer", name := "read", desc := "()I" } : MethodName) ∈ xTb := tb 394 (by decide +kernel) rfl
theorem tw395 : Cond.instanceMethod ({ cls := "TextMorph$Buffer", name := "read", desc := "()I" } : MethodName) ∈ xTb := tb 395 (by decide +kernel) rfl
theorem tw396 : Cond.selects "TextMorph$Buffer" ({ cls := "TextMorph$Buffer", name := "read", desc := "()I" } : MethodName) ({ cls := "TextMorph$Buffer", name := "read", desc := "()I" } : MethodName) ∈ xTb := tb 396 (by decide +kernel) rfl
theorem tw397 : Cond.code ({ cls := "TextMorph$Buffer", name := "read", desc := "()I" } : MethodName) prog_2_method_2_code (6 : Nat) (Option.some FieldType.int) ∈ xTb := tb 397 (by decide +kernel) rfl
theorem tw398 : Cond.methodLink "TextMorph$Buffer" (22 : Nat) ({ cls := "java/util/Arrays", name := "fill", desc := "([II)V" } : MethodName) ∈ xTb := tb 398 (by decide +kernel) rfl
theorem tw400 : Cond.static ({ cls := "TextMorph", name := "isLetter", desc := "(I)Z" } : MethodName) ∈ xTb := tb 400 (by decide +kernel) rfl
theorem tw401 : Cond.code ({ cls := "TextMorph", name := "isLetter", desc := "(I)Z" } : MethodName) prog_1_method_33_code (1 : Nat) (Option.some FieldType.boolean) ∈ xTb := tb 401 (by decide +kernel) rfl
theorem tw402 : Cond.methodLink "TextMorphLaw" (128 : Nat) ({ cls := "TextMorph", name := "best", desc := "()I" } : MethodName) ∈ xTb := tb 402 (by decide +kernel) rfl
theorem tw403 : Cond.instanceMethod ({ cls := "TextMorph", name := "best", desc := "()I" } : MethodName) ∈ xTb := tb 403 (by decide +kernel) rfl
theorem tw404 : Cond.selects "TextMorph" ({ cls := "TextMorph", name := "best", desc := "()I" } : MethodName) ({ cls := "TextMorph", name := "best", desc := "()I" } : MethodName) ∈ xTb := tb 404 (by decide +kernel) rfl
theorem tw405 : Cond.code ({ cls := "TextMorph", name := "best", desc := "()I" } : MethodName) prog_1_method_19_code (7 : Nat) (Option.some FieldType.int) ∈ xTb := tb 405 (by decide +kernel) rfl
theorem tw406 : Cond.methodLink "TextMorphLaw" (132 : Nat) ({ cls := "TextMorph", name := "likeness", desc := "()D" } : MethodName) ∈ xTb := tb 406 (by decide +kernel) rfl
theorem tw407 : Cond.instanceMethod ({ cls := "TextMorph", name := "likeness", desc := "()D" } : MethodName) ∈ xTb := tb 407 (by decide +kernel) rfl
theorem tw408 : Cond.selects "TextMorph" ({ cls := "TextMorph", name := "likeness", desc := "()D" } : MethodName) ({ cls := "TextMorph", name := "likeness", desc := "()D" } : MethodName) ∈ xTb := tb 408 (by decide +kernel) rfl
theorem tw409 : Cond.code ({ cls := "TextMorph", name := "likeness", desc := "()D" } : MethodName) prog_1_method_20_code (2 : Nat) (Option.some FieldType.double) ∈ xTb := tb 409 (by decide +kernel) rfl
theorem tw410 : Cond.methodLink "TextMorphLaw" (137 : Nat) ({ cls := "TextMorph", name := "digest", desc := "()J" } : MethodName) ∈ xTb := tb 410 (by decide +kernel) rfl
theorem tw411 : Cond.instanceMethod ({ cls := "TextMorph", name := "digest", desc := "()J" } : MethodName) ∈ xTb := tb 411 (by decide +kernel) rfl
theorem tw412 : Cond.selects "TextMorph" ({ cls := "TextMorph", name := "digest", desc := "()J" } : MethodName) ({ cls := "TextMorph", name := "digest", desc := "()J" } : MethodName) ∈ xTb := tb 412 (by decide +kernel) rfl
theorem tw413 : Cond.code ({ cls := "TextMorph", name := "digest", desc := "()J" } : MethodName) prog_1_method_21_code (4 : Nat) (Option.some FieldType.long) ∈ xTb := tb 413 (by decide +kernel) rfl
theorem tw414 : Cond.constantLong "TextMorph" (217 : Nat) (2111 : Int64) ∈ xTb := tb 414 (by decide +kernel) rfl
theorem tw415 : Cond.methodLink "TextMorph" (219 : Nat) ({ cls := "TextMorph", name := "mixNumbers", desc := "(J)J" } : MethodName) ∈ xTb := tb 415 (by decide +kernel) rfl
theorem tw417 : Cond.instanceMethod ({ cls := "TextMorph", name := "mixNumbers", desc := "(J)J" } : MethodName) ∈ xTb := tb 417 (by decide +kernel) rfl
theorem tw418 : Cond.code ({ cls := "TextMorph", name := "mixNumbers", desc := "(J)J" } : MethodName) prog_1_method_22_code (6 : Nat) (Option.some FieldType.long) ∈ xTb := tb 418 (by decide +kernel) rfl
theorem tw419 : Cond.methodLink "TextMorph" (190 : Nat) ({ cls := "TextMorph$Morph", name := "number", desc := "(I)I" } : MethodName) ∈ xTb := tb 419 (by decide +kernel) rfl
theorem tw420 : Cond.instanceMethod ({ cls := "TextMorph$Morph", name := "number", desc := "(I)I" } : MethodName) ∈ xTb := tb 420 (by decide +kernel) rfl
theorem tw421 : Cond.selects "TextMorph$Morph" ({ cls := "TextMorph$Morph", name := "number", desc := "(I)I" } : MethodName) ({ cls := "TextMorph$Morph", name := "number", desc := "(I)I" } : MethodName) ∈ xTb := tb 421 (by decide +kernel) rfl
theorem tw422 : Cond.code ({ cls := "TextMorph$Morph", name := "number", desc := "(I)I" } : MethodName) prog_3_method_4_code (2 : Nat) (Option.some FieldType.int) ∈ xTb := tb 422 (by decide +kernel) rfl
theorem tw423 : Cond.methodLink "TextMorph$Morph" (83 : Nat) ({ cls := "TextMorph$Morph", name := "frames", desc := "()I" } : MethodName) ∈ xTb := tb 423 (by decide +kernel) rfl
theorem tw424 : Cond.methodLink "TextMorph$Morph" (86 : Nat) ({ cls := "TextMorph$Morph", name := "distancesOfAll", desc := "()I" } : MethodName) ∈ xTb := tb 424 (by decide +kernel) rfl
theorem tw426 : Cond.instanceMethod ({ cls := "TextMorph$Morph", name := "distancesOfAll", desc := "()I" } : MethodName) ∈ xTb := tb 426 (by decide +kernel) rfl
theorem tw427 : Cond.code ({ cls := "TextMorph$Morph", name := "distancesOfAll", desc := "()I" } : MethodName) prog_3_method_10_code (3 : Nat) (Option.some FieldType.int) ∈ xTb := tb 427 (by decide +kernel) rfl
theorem tw428 : Cond.methodLink "TextMorph$Morph" (121 : Nat) ({ cls := "TextMorph$Morph", name := "vanishes", desc := "(I)Z" } : MethodName) ∈ xTb := tb 428 (by decide +kernel) rfl
theorem tw430 : Cond.instanceMethod ({ cls := "TextMorph$Morph", name := "vanishes", desc := "(I)Z" } : MethodName) ∈ xTb := tb 430 (by decide +kernel) rfl
theorem tw431 : Cond.code ({ cls := "TextMorph$Morph", name := "vanishes", desc := "(I)Z" } : MethodName) prog_3_method_13_code (2 : Nat) (Option.some FieldType.boolean) ∈ xTb := tb 431 (by decide +kernel) rfl
theorem tw432 : Cond.methodLink "TextMorph$Morph" (111 : Nat) ({ cls := "TextMorph$Pairs", name := "distance", desc := "(II)I" } : MethodName) ∈ xTb := tb 432 (by decide +kernel) rfl
theorem tw433 : Cond.methodLink "TextMorph$Morph" (89 : Nat) ({ cls := "TextMorph$Morph", name := "stepsOfAll", desc := "()I" } : MethodName) ∈ xTb := tb 433 (by decide +kernel) rfl
theorem tw435 : Cond.instanceMethod ({ cls := "TextMorph$Morph", name := "stepsOfAll", desc := "()I" } : MethodName) ∈ xTb := tb 435 (by decide +kernel) rfl
theorem tw436 : Cond.code ({ cls := "TextMorph$Morph", name := "stepsOfAll", desc := "()I" } : MethodName) prog_3_method_11_code (3 : Nat) (Option.some FieldType.int) ∈ xTb := tb 436 (by decide +kernel) rfl
theorem tw437 : Cond.methodLink "TextMorph$Morph" (115 : Nat) ({ cls := "TextMorph$Morph", name := "steps", desc := "(I)I" } : MethodName) ∈ xTb := tb 437 (by decide +kernel) rfl
theorem tw439 : Cond.instanceMethod ({ cls := "TextMorph$Morph", name := "steps", desc := "(I)I" } : MethodName) ∈ xTb := tb 439 (by decide +kernel) rfl
theorem tw440 : Cond.code ({ cls := "TextMorph$Morph", name := "steps", desc := "(I)I" } : MethodName) prog_3_method_12_code (3 : Nat) (Option.some FieldType.int) ∈ xTb := tb 440 (by decide +kernel) rfl
theorem tw441 : Cond.methodLink "TextMorph$Morph" (105 : Nat) ({ cls := "TextMorph$Text", name := "columnOf", desc := "(I)I" } : MethodName) ∈ xTb := tb 441 (by decide +kernel) rfl
theorem tw442 : Cond.methodLink "TextMorph$Morph" (157 : Nat) ({ cls := "java/lang/Math", name := "abs", desc := "(I)I" } : MethodName) ∈ xTb := tb 442 (by decide +kernel) rfl
theorem tw443 : Cond.methodLink "TextMorph$Morph" (101 : Nat) ({ cls := "TextMorph$Text", name := "rowOf", desc := "(I)I" } : MethodName) ∈ xTb := tb 443 (by decide +kernel) rfl
theorem tw444 : Cond.methodLink "TextMorph" (232 : Nat) ({ cls := "TextMorph", name := "mix", desc := "(JJ)J" } : MethodName) ∈ xTb := tb 444 (by decide +kernel) rfl
theorem tw445 : Cond.static ({ cls := "TextMorph", name := "mix", desc := "(JJ)J" } : MethodName) ∈ xTb := tb 445 (by decide +kernel) rfl
theorem tw446 : Cond.code ({ cls := "TextMorph", name := "mix", desc := "(JJ)J" } : MethodName) prog_1_method_25_code (4 : Nat) (Option.some FieldType.long) ∈ xTb := tb 446 (by decide +kernel) rfl
theorem tw447 : Cond.constantLong "TextMorph" (244 : Nat) (31 : Int64) ∈ xTb := tb 447 (by decide +kernel) rfl
theorem tw448 : Cond.methodLink "TextMorph" (223 : Nat) ({ cls := "TextMorph", name := "mixLetters", desc := "(J)J" } : MethodName) ∈ xTb := tb 448 (by decide +kernel) rfl
theorem tw450 : Cond.instanceMethod ({ cls := "TextMorph", name := "mixLetters", desc := "(J)J" } : MethodName) ∈ xTb := tb 450 (by decide +kernel) rfl
theorem tw451 : Cond.code ({ cls := "TextMorph", name := "mixLetters", desc := "(J)J" } : MethodName) prog_1_method_23_code (8 : Nat) (Option.some FieldType.long) ∈ xTb := tb 451 (by decide +kernel) rfl
theorem tw452 : Cond.methodLink "TextMorph" (157 : Nat) ({ cls := "TextMorph$Morph", name := "letterProperty", desc := "(III)I" } : MethodName) ∈ xTb := tb 452 (by decide +kernel) rfl
theorem tw453 : Cond.instanceMethod ({ cls := "TextMorph$Morph", name := "letterProperty", desc := "(III)I" } : MethodName) ∈ xTb := tb 453 (by decide +kernel) rfl
theorem tw454 : Cond.selects "TextMorph$Morph" ({ cls := "TextMorph$Morph", name := "letterProperty", desc := "(III)I" } : MethodName) ({ cls := "TextMorph$Morph", name := "letterProperty", desc := "(III)I" } : MethodName) ∈ xTb := tb 454 (by decide +kernel) rfl
theorem tw455 : Cond.code ({ cls := "TextMorph$Morph", name := "letterProperty", desc := "(III)I" } : MethodName) prog_3_method_5_code (5 : Nat) (Option.some FieldType.int) ∈ xTb := tb 455 (by decide +kernel) rfl
theorem tw456 : Cond.methodLink "TextMorph$Morph" (108 : Nat) ({ cls := "TextMorph$Text", name := "codeOf", desc := "(I)I" } : MethodName) ∈ xTb := tb 456 (by decide +kernel) rfl
theorem tw457 : Cond.methodLink "TextMorph" (166 : Nat) ({ cls := "TextMorph$Morph", name := "wayProperty", desc := "(II)I" } : MethodName) ∈ xTb := tb 457 (by decide +kernel) rfl
theorem tw458 : Cond.instanceMethod ({ cls := "TextMorph$Morph", name := "wayProperty", desc := "(II)I" } : MethodName) ∈ xTb := tb 458 (by decide +kernel) rfl
theorem tw459 : Cond.selects "TextMorph$Morph" ({ cls := "TextMorph$Morph", name := "wayProperty", desc := "(II)I" } : MethodName) ({ cls := "TextMorph$Morph", name := "wayProperty", desc := "(II)I" } : MethodName) ∈ xTb := tb 459 (by decide +kernel) rfl
theorem tw460 : Cond.code ({ cls := "TextMorph$Morph", name := "wayProperty", desc := "(II)I" } : MethodName) prog_3_method_6_code (3 : Nat) (Option.some FieldType.int) ∈ xTb := tb 460 (by decide +kernel) rfl
theorem tw461 : Cond.methodLink "TextMorph" (226 : Nat) ({ cls := "TextMorph", name := "mixFrames", desc := "(J)J" } : MethodName) ∈ xTb := tb 461 (by decide +kernel) rfl
theorem tw463 : Cond.instanceMethod ({ cls := "TextMorph", name := "mixFrames", desc := "(J)J" } : MethodName) ∈ xTb := tb 463 (by decide +kernel) rfl
theorem tw464 : Cond.code ({ cls := "TextMorph", name := "mixFrames", desc := "(J)J" } : MethodName) prog_1_method_24_code (7 : Nat) (Option.some FieldType.long) ∈ xTb := tb 464 (by decide +kernel) rfl
theorem tw465 : Cond.methodLink "TextMorph" (185 : Nat) ({ cls := "TextMorph$Morph", name := "frameProperty", desc := "(II)I" } : MethodName) ∈ xTb := tb 465 (by decide +kernel) rfl
theorem tw466 : Cond.instanceMethod ({ cls := "TextMorph$Morph", name := "frameProperty", desc := "(II)I" } : MethodName) ∈ xTb := tb 466 (by decide +kernel) rfl
theorem tw467 : Cond.selects "TextMorph$Morph" ({ cls := "TextMorph$Morph", name := "frameProperty", desc := "(II)I" } : MethodName) ({ cls := "TextMorph$Morph", name := "frameProperty", desc := "(II)I" } : MethodName) ∈ xTb := tb 467 (by decide +kernel) rfl
theorem tw468 : Cond.code ({ cls := "TextMorph$Morph", name := "frameProperty", desc := "(II)I" } : MethodName) prog_3_method_9_code (3 : Nat) (Option.some FieldType.int) ∈ xTb := tb 468 (by decide +kernel) rfl
theorem tw469 : Cond.methodLink "TextMorph$Morph" (142 : Nat) ({ cls := "TextMorph$Morph", name := "cellsWithLetters", desc := "(I)I" } : MethodName) ∈ xTb := tb 469 (by decide +kernel) rfl
theorem tw471 : Cond.instanceMethod ({ cls := "TextMorph$Morph", name := "cellsWithLetters", desc := "(I)I" } : MethodName) ∈ xTb := tb 471 (by decide +kernel) rfl
theorem tw472 : Cond.code ({ cls := "TextMorph$Morph", name := "cellsWithLetters", desc := "(I)I" } : MethodName) prog_3_method_18_code (4 : Nat) (Option.some FieldType.int) ∈ xTb := tb 472 (by decide +kernel) rfl
theorem tw473 : Cond.methodLink "TextMorph$Morph" (138 : Nat) ({ cls := "TextMorph$Morph", name := "show", desc := "(I[I)V" } : MethodName) ∈ xTb := tb 473 (by decide +kernel) rfl
theorem tw475 : Cond.instanceMethod ({ cls := "TextMorph$Morph", name := "show", desc := "(I[I)V" } : MethodName) ∈ xTb := tb 475 (by decide +kernel) rfl
theorem tw476 : Cond.code ({ cls := "TextMorph$Morph", name := "show", desc := "(I[I)V" } : MethodName) prog_3_method_17_code (5 : Nat) (Option.none : Option FieldType) ∈ xTb := tb 476 (by decide +kernel) rfl
theorem tw477 : Cond.methodLink "TextMorph$Morph" (171 : Nat) ({ cls := "java/util/Arrays", name := "fill", desc := "([II)V" } : MethodName) ∈ xTb := tb 477 (by decide +kernel) rfl
theorem tw478 : Cond.methodLink "TextMorph$Morph" (180 : Nat) ({ cls := "TextMorph$Morph", name := "cellOf", desc := "(II)I" } : MethodName) ∈ xTb := tb 478 (by decide +kernel) rfl
theorem tw479 : Cond.instanceMethod ({ cls := "TextMorph$Morph", name := "cellOf", desc := "(II)I" } : MethodName) ∈ xTb := tb 479 (by decide +kernel) rfl
theorem tw480 : Cond.selects "TextMorph$Morph" ({ cls := "TextMorph$Morph", name := "cellOf", desc := "(II)I" } : MethodName) ({ cls := "TextMorph$Morph", name := "cellOf", desc := "(II)I" } : MethodName) ∈ xTb := tb 480 (by decide +kernel) rfl
theorem tw481 : Cond.code ({ cls := "TextMorph$Morph", name := "cellOf", desc := "(II)I" } : MethodName) prog_3_method_7_code (3 : Nat) (Option.some FieldType.int) ∈ xTb := tb 481 (by decide +kernel) rfl
theorem tw482 : Cond.methodLink "TextMorph$Morph" (128 : Nat) ({ cls := "TextMorph$Morph", name := "isGone", desc := "(II)Z" } : MethodName) ∈ xTb := tb 482 (by decide +kernel) rfl
theorem tw484 : Cond.instanceMethod ({ cls := "TextMorph$Morph", name := "isGone", desc := "(II)Z" } : MethodName) ∈ xTb := tb 484 (by decide +kernel) rfl
theorem tw485 : Cond.code ({ cls := "TextMorph$Morph", name := "isGone", desc := "(II)Z" } : MethodName) prog_3_method_14_code (3 : Nat) (Option.some FieldType.boolean) ∈ xTb := tb 485 (by decide +kernel) rfl
theorem tw486 : Cond.methodLink "TextMorph$Morph" (132 : Nat) ({ cls := "TextMorph$Morph", name := "movedBy", desc := "(I)I" } : MethodName) ∈ xTb := tb 486 (by decide +kernel) rfl
theorem tw488 : Cond.instanceMethod ({ cls := "TextMorph$Morph", name := "movedBy", desc := "(I)I" } : MethodName) ∈ xTb := tb 488 (by decide +kernel) rfl
theorem tw489 : Cond.code ({ cls := "TextMorph$Morph", name := "movedBy", desc := "(I)I" } : MethodName) prog_3_method_15_code (2 : Nat) (Option.some FieldType.int) ∈ xTb := tb 489 (by decide +kernel) rfl
theorem tw490 : Cond.methodLink "TextMorph$Morph" (162 : Nat) ({ cls := "java/lang/Math", name := "min", desc := "(II)I" } : MethodName) ∈ xTb := tb 490 (by decide +kernel) rfl
theorem tw491 : Cond.static ({ cls := "java/lang/Math", name := "min", desc := "(II)I" } : MethodName) ∈ xTb := tb 491 (by decide +kernel) rfl
theorem tw492 : Cond.code ({ cls := "java/lang/Math", name := "min", desc := "(II)I" } : MethodName) prog_15_method_69_code (2 : Nat) (Option.some FieldType.int) ∈ xTb := tb 492 (by decide +kernel) rfl
theorem tw493 : Cond.methodLink "TextMorph$Morph" (165 : Nat) ({ cls := "java/lang/Math", name := "max", desc := "(II)I" } : MethodName) ∈ xTb := tb 493 (by decide +kernel) rfl
theorem tw494 : Cond.methodLink "TextMorph$Morph" (135 : Nat) ({ cls := "TextMorph$Motion", name := "cellAfter", desc := "(II)I" } : MethodName) ∈ xTb := tb 494 (by decide +kernel) rfl
theorem tw495 : Cond.instanceMethod ({ cls := "TextMorph$Motion", name := "cellAfter", desc := "(II)I" } : MethodName) ∈ xTb := tb 495 (by decide +kernel) rfl
theorem tw496 : Cond.selects "TextMorph$Motion" ({ cls := "TextMorph$Motion", name := "cellAfter", desc := "(II)I" } : MethodName) ({ cls := "TextMorph$Motion", name := "cellAfter", desc := "(II)I" } : MethodName) ∈ xTb := tb 496 (by decide +kernel) rfl
theorem tw497 : Cond.code ({ cls := "TextMorph$Motion", name := "cellAfter", desc := "(II)I" } : MethodName) prog_4_method_3_code (3 : Nat) (Option.some FieldType.int) ∈ xTb := tb 497 (by decide +kernel) rfl
theorem tw498 : Cond.methodLink "TextMorph$Morph" (183 : Nat) ({ cls := "TextMorph$Morph", name := "pieceCode", desc := "(II)I" } : MethodName) ∈ xTb := tb 498 (by decide +kernel) rfl
theorem tw500 : Cond.instanceMethod ({ cls := "TextMorph$Morph", name := "pieceCode", desc := "(II)I" } : MethodName) ∈ xTb := tb 500 (by decide +kernel) rfl
theorem tw501 : Cond.code ({ cls := "TextMorph$Morph", name := "pieceCode", desc := "(II)I" } : MethodName) prog_3_method_16_code (4 : Nat) (Option.some FieldType.int) ∈ xTb := tb 501 (by decide +kernel) rfl
theorem tw502 : Cond.methodLink "TextMorph$Morph" (168 : Nat) ({ cls := "TextMorph$Motion", name := "isAtGoalAfter", desc := "(II)Z" } : MethodName) ∈ xTb := tb 502 (by decide +kernel) rfl
theorem tw503 : Cond.instanceMethod ({ cls := "TextMorph$Motion", name := "isAtGoalAfter", desc := "(II)Z" } : MethodName) ∈ xTb := tb 503 (by decide +kernel) rfl
theorem tw504 : Cond.selects "TextMorph$Motion" ({ cls := "TextMorph$Motion", name := "isAtGoalAfter", desc := "(II)Z" } : MethodName) ({ cls := "TextMorph$Motion", name := "isAtGoalAfter", desc := "(II)Z" } : MethodName) ∈ xTb := tb 504 (by decide +kernel) rfl
theorem tw505 : Cond.code ({ cls := "TextMorph$Motion", name := "isAtGoalAfter", desc := "(II)Z" } : MethodName) prog_4_method_4_code (3 : Nat) (Option.some FieldType.boolean) ∈ xTb := tb 505 (by decide +kernel) rfl
theorem tw506 : Cond.methodLink "TextMorph$Motion" (85 : Nat) ({ cls := "TextMorph$Motion", name := "cellAfter", desc := "(II)I" } : MethodName) ∈ xTb := tb 506 (by decide +kernel) rfl
theorem tw507 : Cond.methodLink "TextMorph$Morph" (145 : Nat) ({ cls := "TextMorph$Morph", name := "cellsThatDiffer", desc := "(I)I" } : MethodName) ∈ xTb := tb 507 (by decide +kernel) rfl
theorem tw509 : Cond.instanceMethod ({ cls := "TextMorph$Morph", name := "cellsThatDiffer", desc := "(I)I" } : MethodName) ∈ xTb := tb 509 (by decide +kernel) rfl
theorem tw510 : Cond.code ({ cls := "TextMorph$Morph", name := "cellsThatDiffer", desc := "(I)I" } : MethodName) prog_3_method_19_code (4 : Nat) (Option.some FieldType.int) ∈ xTb := tb 510 (by decide +kernel) rfl
theorem tw511 : Cond.methodLink "TextMorph$Morph" (148 : Nat) ({ cls := "TextMorph$Motion", name := "heldIn", desc := "(I)I" } : MethodName) ∈ xTb := tb 511 (by decide +kernel) rfl
theorem tw512 : Cond.instanceMethod ({ cls := "TextMorph$Motion", name := "heldIn", desc := "(I)I" } : MethodName) ∈ xTb := tb 512 (by decide +kernel) rfl
theorem tw513 : Cond.selects "TextMorph$Motion" ({ cls := "TextMorph$Motion", name := "heldIn", desc := "(I)I" } : MethodName) ({ cls := "TextMorph$Motion", name := "heldIn", desc := "(I)I" } : MethodName) ∈ xTb := tb 513 (by decide +kernel) rfl
theorem tw514 : Cond.code ({ cls := "TextMorph$Motion", name := "heldIn", desc := "(I)I" } : MethodName) prog_4_method_5_code (2 : Nat) (Option.some FieldType.int) ∈ xTb := tb 514 (by decide +kernel) rfl
theorem tw515 : Cond.methodLink "TextMorph$Morph" (151 : Nat) ({ cls := "TextMorph$Morph", name := "sharedCells", desc := "(I)I" } : MethodName) ∈ xTb := tb 515 (by decide +kernel) rfl
theorem tw517 : Cond.instanceMethod ({ cls := "TextMorph$Morph", name := "sharedCells", desc := "(I)I" } : MethodName) ∈ xTb := tb 517 (by decide +kernel) rfl
theorem tw518 : Cond.code ({ cls := "TextMorph$Morph", name := "sharedCells", desc := "(I)I" } : MethodName) prog_3_method_20_code (5 : Nat) (Option.some FieldType.int) ∈ xTb := tb 518 (by decide +kernel) rfl
theorem tw519 : Cond.methodLink "TextMorph$Morph" (154 : Nat) ({ cls := "TextMorph$Morph", name := "piecesLeft", desc := "(I)I" } : MethodName) ∈ xTb := tb 519 (by decide +kernel) rfl
theorem tw521 : Cond.instanceMethod ({ cls := "TextMorph$Morph", name := "piecesLeft", desc := "(I)I" } : MethodName) ∈ xTb := tb 521 (by decide +kernel) rfl
theorem tw522 : Cond.code ({ cls := "TextMorph$Morph", name := "piecesLeft", desc := "(I)I" } : MethodName) prog_3_method_21_code (4 : Nat) (Option.some FieldType.int) ∈ xTb := tb 522 (by decide +kernel) rfl
theorem tw523 : Cond.methodLink "TextMorph" (175 : Nat) ({ cls := "TextMorph$Morph", name := "codeShown", desc := "(II)I" } : MethodName) ∈ xTb := tb 523 (by decide +kernel) rfl
theorem tw524 : Cond.instanceMethod ({ cls := "TextMorph$Morph", name := "codeShown", desc := "(II)I" } : MethodName) ∈ xTb := tb 524 (by decide +kernel) rfl
theorem tw525 : Cond.selects "TextMorph$Morph" ({ cls := "TextMorph$Morph", name := "codeShown", desc := "(II)I" } : MethodName) ({ cls := "TextMorph$Morph", name := "codeShown", desc := "(II)I" } : MethodName) ∈ xTb := tb 525 (by decide +kernel) rfl
theorem tw526 : Cond.code ({ cls := "TextMorph$Morph", name := "codeShown", desc := "(II)I" } : MethodName) prog_3_method_8_code (3 : Nat) (Option.some FieldType.int) ∈ xTb := tb 526 (by decide +kernel) rfl
theorem tw527 : Cond.methodLink "TextMorph" (229 : Nat) ({ cls := "TextMorph", name := "best", desc := "()I" } : MethodName) ∈ xTb := tb 527 (by decide +kernel) rfl
theorem tw528 : Cond.methodLink "TextMorph" (236 : Nat) ({ cls := "TextMorph", name := "likeness", desc := "()D" } : MethodName) ∈ xTb := tb 528 (by decide +kernel) rfl
theorem tw529 : Cond.methodLink "TextMorph" (240 : Nat) ({ cls := "TextMorph", name := "bits", desc := "(D)J" } : MethodName) ∈ xTb := tb 529 (by decide +kernel) rfl
theorem tw530 : Cond.static ({ cls := "TextMorph", name := "bits", desc := "(D)J" } : MethodName) ∈ xTb := tb 530 (by decide +kernel) rfl
theorem tw531 : Cond.code ({ cls := "TextMorph", name := "bits", desc := "(D)J" } : MethodName) prog_1_method_26_code (6 : Nat) (Option.some FieldType.long) ∈ xTb := tb 531 (by decide +kernel) rfl
theorem tw532 : Cond.constantLong "TextMorph" (246 : Nat) (1023 : Int64) ∈ xTb := tb 532 (by decide +kernel) rfl
theorem tw533 : Cond.constantDouble "TextMorph" (248 : Nat) (4611686018427387904 : UInt64) ∈ xTb := tb 533 (by decide +kernel) rfl
theorem tw534 : Cond.constantDouble "TextMorph" (250 : Nat) (4841369599423283200 : UInt64) ∈ xTb := tb 534 (by decide +kernel) rfl
theorem tw535 : Cond.methodLink "TextMorphLaw" (67 : Nat) ({ cls := "TextMorphLaw", name := "set", desc := "(LTextMorph;II[J)I" } : MethodName) ∈ xTb := tb 535 (by decide +kernel) rfl
theorem tw536 : Cond.static ({ cls := "TextMorphLaw", name := "set", desc := "(LTextMorph;II[J)I" } : MethodName) ∈ xTb := tb 536 (by decide +kernel) rfl
theorem tw537 : Cond.codeWith ({ cls := "TextMorphLaw", name := "set", desc := "(LTextMorph;II[J)I" } : MethodName) method_3_code (5 : Nat) (Option.some FieldType.int) [((0 : Nat), (10 : Nat), (13 : Nat), (13 : Nat)), ((0 : Nat), (10 : Nat), (17 : Nat), (15 : Nat))] ∈ xTb := tb 537 (by decide +kernel) rfl
theorem tw538 : Cond.classLink "TextMorphLaw" (13 : Nat) "java/lang/IndexOutOfBoundsException" ∈ xTb := tb 538 (by decide +kernel) rfl
theorem tw539 : Cond.classLink "TextMorphLaw" (15 : Nat) "java/lang/IllegalArgumentException" ∈ xTb := tb 539 (by decide +kernel) rfl
theorem tw540 : Cond.methodLink "TextMorphLaw" (7 : Nat) ({ cls := "TextMorph", name := "set", desc := "(II)I" } : MethodName) ∈ xTb := tb 540 (by decide +kernel) rfl
theorem tw541 : Cond.instanceMethod ({ cls := "TextMorph", name := "set", desc := "(II)I" } : MethodName) ∈ xTb := tb 541 (by decide +kernel) rfl
theorem tw542 : Cond.selects "TextMorph" ({ cls := "TextMorph", name := "set", desc := "(II)I" } : MethodName) ({ cls := "TextMorph", name := "set", desc := "(II)I" } : MethodName) ∈ xTb := tb 542 (by decide +kernel) rfl
theorem tw543 : Cond.code ({ cls := "TextMorph", name := "set", desc := "(II)I" } : MethodName) prog_1_method_3_code (4 : Nat) (Option.some FieldType.int) ∈ xTb := tb 543 (by decide +kernel) rfl
theorem tw544 : Cond.methodLink "TextMorph" (65 : Nat) ({ cls := "TextMorph", name := "isSetting", desc := "(I)Z" } : MethodName) ∈ xTb := tb 544 (by decide +kernel) rfl
theorem tw545 : Cond.static ({ cls := "TextMorph", name := "isSetting", desc := "(I)Z" } : MethodName) ∈ xTb := tb 545 (by decide +kernel) rfl
theorem tw546 : Cond.code ({ cls := "TextMorph", name := "isSetting", desc := "(I)Z" } : MethodName) prog_1_method_34_code (1 : Nat) (Option.some FieldType.boolean) ∈ xTb := tb 546 (by decide +kernel) rfl
theorem tw547 : Cond.classLink "TextMorph" (69 : Nat) "java/lang/IndexOutOfBoundsException" ∈ xTb := tb 547 (by decide +kernel) rfl
theorem tw615 : Cond.methodLink "TextMorph" (76 : Nat) ({ cls := "TextMorph", name := "isValue", desc := "(II)Z" } : MethodName) ∈ xTb := tb 615 (by decide +kernel) rfl
theorem tw616 : Cond.static ({ cls := "TextMorph", name := "isValue", desc := "(II)Z" } : MethodName) ∈ xTb := tb 616 (by decide +kernel) rfl
theorem tw617 : Cond.code ({ cls := "TextMorph", name := "isValue", desc := "(II)Z" } : MethodName) prog_1_method_35_code (2 : Nat) (Option.some FieldType.boolean) ∈ xTb := tb 617 (by decide +kernel) rfl
theorem tw618 : Cond.fieldLink "TextMorph" (252 : Nat) "TextMorph" "LEAST_VALUE" "[I" ∈ xTb := tb 618 (by decide +kernel) rfl
theorem tw620 : Cond.fieldLink "TextMorph" (255 : Nat) "TextMorph" "MOST_VALUE" "[I" ∈ xTb := tb 620 (by decide +kernel) rfl
theorem tw622 : Cond.classLink "TextMorph" (80 : Nat) "java/lang/IllegalArgumentException" ∈ xTb := tb 622 (by decide +kernel) rfl
theorem tw638 : Cond.methodLink "TextMorphLaw" (76 : Nat) ({ cls := "TextMorphLaw", name := "load", desc := "(LTextMorph;I[J)I" } : MethodName) ∈ xTb := tb 638 (by decide +kernel) rfl
theorem tw639 : Cond.static ({ cls := "TextMorphLaw", name := "load", desc := "(LTextMorph;I[J)I" } : MethodName) ∈ xTb := tb 639 (by decide +kernel) rfl
theorem tw640 : Cond.codeWith ({ cls := "TextMorphLaw", name := "load", desc := "(LTextMorph;I[J)I" } : MethodName) method_4_code (4 : Nat) (Option.some FieldType.int) [((0 : Nat), (9 : Nat), (12 : Nat), (13 : Nat)), ((0 : Nat), (9 : Nat), (15 : Nat), (15 : Nat))] ∈ xTb := tb 640 (by decide +kernel) rfl
theorem tw641 : Cond.methodLink "TextMorphLaw" (17 : Nat) ({ cls := "TextMorph", name := "load", desc := "(I)I" } : MethodName) ∈ xTb := tb 641 (by decide +kernel) rfl
theorem tw642 : Cond.instanceMethod ({ cls := "TextMorph", name := "load", desc := "(I)I" } : MethodName) ∈ xTb := tb 642 (by decide +kernel) rfl
theorem tw643 : Cond.selects "TextMorph" ({ cls := "TextMorph", name := "load", desc := "(I)I" } : MethodName) ({ cls := "TextMorph", name := "load", desc := "(I)I" } : MethodName) ∈ xTb := tb 643 (by decide +kernel) rfl
theorem tw644 : Cond.code ({ cls := "TextMorph", name := "load", desc := "(I)I" } : MethodName) prog_1_method_4_code (2 : Nat) (Option.some FieldType.int) ∈ xTb := tb 644 (by decide +kernel) rfl
theorem tw645 : Cond.methodLink "TextMorph" (89 : Nat) ({ cls := "TextMorph", name := "isText", desc := "(I)Z" } : MethodName) ∈ xTb := tb 645 (by decide +kernel) rfl
theorem tw646 : Cond.static ({ cls := "TextMorph", name := "isText", desc := "(I)Z" } : MethodName) ∈ xTb := tb 646 (by decide +kernel) rfl
theorem tw647 : Cond.code ({ cls := "TextMorph", name := "isText", desc := "(I)Z" } : MethodName) prog_1_method_31_code (1 : Nat) (Option.some FieldType.boolean) ∈ xTb := tb 647 (by decide +kernel) rfl
theorem tw650 : Cond.methodLink "TextMorph" (106 : Nat) ({ cls := "TextMorph$Text", name := "takeCodes", desc := "([I)V" } : MethodName) ∈ xTb := tb 650 (by decide +kernel) rfl
theorem tw651 : Cond.instanceMethod ({ cls := "TextMorph$Text", name := "takeCodes", desc := "([I)V" } : MethodName) ∈ xTb := tb 651 (by decide +kernel) rfl
theorem tw652 : Cond.selects "TextMorph$Text" ({ cls := "TextMorph$Text", name := "takeCodes", desc := "([I)V" } : MethodName) ({ cls := "TextMorph$Text", name := "takeCodes", desc := "([I)V" } : MethodName) ∈ xTb := tb 652 (by decide +kernel) rfl
theorem tw653 : Cond.code ({ cls := "TextMorph$Text", name := "takeCodes", desc := "([I)V" } : MethodName) prog_7_method_3_code (2 : Nat) (Option.none : Option FieldType) ∈ xTb := tb 653 (by decide +kernel) rfl
theorem tw654 : Cond.methodLink "TextMorph$Text" (34 : Nat) ({ cls := "TextMorph$Text", name := "numberLetters", desc := "()V" } : MethodName) ∈ xTb := tb 654 (by decide +kernel) rfl
theorem tw656 : Cond.instanceMethod ({ cls := "TextMorph$Text", name := "numberLetters", desc := "()V" } : MethodName) ∈ xTb := tb 656 (by decide +kernel) rfl
theorem tw657 : Cond.code ({ cls := "TextMorph$Text", name := "numberLetters", desc := "()V" } : MethodName) prog_7_method_9_code (2 : Nat) (Option.none : Option FieldType) ∈ xTb := tb 657 (by decide +kernel) rfl
theorem tw658 : Cond.methodLink "TextMorphLaw" (80 : Nat) ({ cls := "TextMorphLaw", name := "put", desc := "(LTextMorph;IIII[J)I" } : MethodName) ∈ xTb := tb 658 (by decide +kernel) rfl
theorem tw659 : Cond.static ({ cls := "TextMorphLaw", name := "put", desc := "(LTextMorph;IIII[J)I" } : MethodName) ∈ xTb := tb 659 (by decide +kernel) rfl
theorem tw660 : Cond.codeWith ({ cls := "TextMorphLaw", name := "put", desc := "(LTextMorph;IIII[J)I" } : MethodName) method_5_code (7 : Nat) (Option.some FieldType.int) [((0 : Nat), (14 : Nat), (17 : Nat), (13 : Nat)), ((0 : Nat), (14 : Nat), (21 : Nat), (15 : Nat)), ((0 : Nat), (14 : Nat), (25 : Nat), (25 : Nat))] ∈ xTb := tb 660 (by decide +kernel) rfl
theorem tw661 : Cond.classLink "TextMorphLaw" (25 : Nat) "java/lang/IllegalStateException" ∈ xTb := tb 661 (by decide +kernel) rfl
theorem tw662 : Cond.methodLink "TextMorphLaw" (21 : Nat) ({ cls := "TextMorph", name := "put", desc := "(IIII)I" } : MethodName) ∈ xTb := tb 662 (by decide +kernel) rfl
theorem tw663 : Cond.instanceMethod ({ cls := "TextMorph", name := "put", desc := "(IIII)I" } : MethodName) ∈ xTb := tb 663 (by decide +kernel) rfl
theorem tw664 : Cond.selects "TextMorph" ({ cls := "TextMorph", name := "put", desc := "(IIII)I" } : MethodName) ({ cls := "TextMorph", name := "put", desc := "(IIII)I" } : MethodName) ∈ xTb := tb 664 (by decide +kernel) rfl
theorem tw665 : Cond.code ({ cls := "TextMorph", name := "put", desc := "(IIII)I" } : MethodName) prog_1_method_5_code (7 : Nat) (Option.some FieldType.int) ∈ xTb := tb 665 (by decide +kernel) rfl
theorem tw666 : Cond.methodLink "TextMorph" (110 : Nat) ({ cls := "TextMorph", name := "isCell", desc := "(II)Z" } : MethodName) ∈ xTb := tb 666 (by decide +kernel) rfl
theorem tw667 : Cond.static ({ cls := "TextMorph", name := "isCell", desc := "(II)Z" } : MethodName) ∈ xTb := tb 667 (by decide +kernel) rfl
theorem tw668 : Cond.code ({ cls := "TextMorph", name := "isCell", desc := "(II)Z" } : MethodName) prog_1_method_32_code (2 : Nat) (Option.some FieldType.boolean) ∈ xTb := tb 668 (by decide +kernel) rfl
theorem tw670 : Cond.methodLink "TextMorph" (115 : Nat) ({ cls := "TextMorph", name := "isLetter", desc := "(I)Z" } : MethodName) ∈ xTb := tb 670 (by decide +kernel) rfl
theorem tw672 : Cond.classLink "TextMorph" (123 : Nat) "java/lang/IllegalStateException" ∈ xTb := tb 672 (by decide +kernel) rfl
theorem tw688 : Cond.methodLink "TextMorph" (128 : Nat) ({ cls := "TextMorph$Text", name := "write", desc := "(II)V" } : MethodName) ∈ xTb := tb 688 (by decide +kernel) rfl
theorem tw689 : Cond.instanceMethod ({ cls := "TextMorph$Text", name := "write", desc := "(II)V" } : MethodName) ∈ xTb := tb 689 (by decide +kernel) rfl
theorem tw690 : Cond.selects "TextMorph$Text" ({ cls := "TextMorph$Text", name := "write", desc := "(II)V" } : MethodName) ({ cls := "TextMorph$Text", name := "write", desc := "(II)V" } : MethodName) ∈ xTb := tb 690 (by decide +kernel) rfl
theorem tw691 : Cond.code ({ cls := "TextMorph$Text", name := "write", desc := "(II)V" } : MethodName) prog_7_method_5_code (3 : Nat) (Option.none : Option FieldType) ∈ xTb := tb 691 (by decide +kernel) rfl
theorem tw692 : Cond.methodLink "TextMorphLaw" (88 : Nat) ({ cls := "TextMorphLaw", name := "undo", desc := "(LTextMorph;[J)I" } : MethodName) ∈ xTb := tb 692 (by decide +kernel) rfl
theorem tw693 : Cond.static ({ cls := "TextMorphLaw", name := "undo", desc := "(LTextMorph;[J)I" } : MethodName) ∈ xTb := tb 693 (by decide +kernel) rfl
theorem tw694 : Cond.codeWith ({ cls := "TextMorphLaw", name := "undo", desc := "(LTextMorph;[J)I" } : MethodName) method_6_code (3 : Nat) (Option.some FieldType.int) [((0 : Nat), (8 : Nat), (11 : Nat), (25 : Nat))] ∈ xTb := tb 694 (by decide +kernel) rfl
theorem tw695 : Cond.methodLink "TextMorphLaw" (27 : Nat) ({ cls := "TextMorph", name := "undo", desc := "()I" } : MethodName) ∈ xTb := tb 695 (by decide +kernel) rfl
theorem tw696 : Cond.instanceMethod ({ cls := "TextMorph", name := "undo", desc := "()I" } : MethodName) ∈ xTb := tb 696 (by decide +kernel) rfl
theorem tw697 : Cond.selects "TextMorph" ({ cls := "TextMorph", name := "undo", desc := "()I" } : MethodName) ({ cls := "TextMorph", name := "undo", desc := "()I" } : MethodName) ∈ xTb := tb 697 (by decide +kernel) rfl
theorem tw698 : Cond.code ({ cls := "TextMorph", name := "undo", desc := "()I" } : MethodName) prog_1_method_7_code (1 : Nat) (Option.some FieldType.int) ∈ xTb := tb 698 (by decide +kernel) rfl
theorem tw700 : Cond.methodLink "TextMorphLaw" (92 : Nat) ({ cls := "TextMorphLaw", name := "append", desc := "(LTextMorph;I[J)I" } : MethodName) ∈ xTb := tb 700 (by decide +kernel) rfl
theorem tw701 : Cond.static ({ cls := "TextMorphLaw", name := "append", desc := "(LTextMorph;I[J)I" } : MethodName) ∈ xTb := tb 701 (by decide +kernel) rfl
theorem tw702 : Cond.codeWith ({ cls := "TextMorphLaw", name := "append", desc := "(LTextMorph;I[J)I" } : MethodName) method_7_code (4 : Nat) (Option.some FieldType.int) [((0 : Nat), (9 : Nat), (12 : Nat), (15 : Nat)), ((0 : Nat), (9 : Nat), (15 : Nat), (25 : Nat))] ∈ xTb := tb 702 (by decide +kernel) rfl
theorem tw703 : Cond.methodLink "TextMorphLaw" (31 : Nat) ({ cls := "TextMorph", name := "append", desc := "(I)I" } : MethodName) ∈ xTb := tb 703 (by decide +kernel) rfl
theorem tw704 : Cond.instanceMethod ({ cls := "TextMorph", name := "append", desc := "(I)I" } : MethodName) ∈ xTb := tb 704 (by decide +kernel) rfl
theorem tw705 : Cond.selects "TextMorph" ({ cls := "TextMorph", name := "append", desc := "(I)I" } : MethodName) ({ cls := "TextMorph", name := "append", desc := "(I)I" } : MethodName) ∈ xTb := tb 705 (by decide +kernel) rfl
theorem tw706 : Cond.code ({ cls := "TextMorph", name := "append", desc := "(I)I" } : MethodName) prog_1_method_8_code (2 : Nat) (Option.some FieldType.int) ∈ xTb := tb 706 (by decide +kernel) rfl
theorem tw709 : Cond.methodLink "TextMorphLaw" (103 : Nat) ({ cls := "TextMorphLaw", name := "letter", desc := "(LTextMorph;III[J)I" } : MethodName) ∈ xTb := tb 709 (by decide +kernel) rfl
theorem tw710 : Cond.static ({ cls := "TextMorphLaw", name := "letter", desc := "(LTextMorph;III[J)I" } : MethodName) ∈ xTb := tb 710 (by decide +kernel) rfl
theorem tw711 : Cond.codeWith ({ cls := "TextMorphLaw", name := "letter", desc := "(LTextMorph;III[J)I" } : MethodName) method_8_code (6 : Nat) (Option.some FieldType.int) [((0 : Nat), (12 : Nat), (15 : Nat), (13 : Nat)), ((0 : Nat), (12 : Nat), (19 : Nat), (15 : Nat))] ∈ xTb := tb 711 (by decide +kernel) rfl
theorem tw712 : Cond.methodLink "TextMorphLaw" (34 : Nat) ({ cls := "TextMorph", name := "letter", desc := "(III)I" } : MethodName) ∈ xTb := tb 712 (by decide +kernel) rfl
theorem tw713 : Cond.instanceMethod ({ cls := "TextMorph", name := "letter", desc := "(III)I" } : MethodName) ∈ xTb := tb 713 (by decide +kernel) rfl
theorem tw714 : Cond.selects "TextMorph" ({ cls := "TextMorph", name := "letter", desc := "(III)I" } : MethodName) ({ cls := "TextMorph", name := "letter", desc := "(III)I" } : MethodName) ∈ xTb := tb 714 (by decide +kernel) rfl
theorem tw715 : Cond.code ({ cls := "TextMorph", name := "letter", desc := "(III)I" } : MethodName) prog_1_method_11_code (4 : Nat) (Option.some FieldType.int) ∈ xTb := tb 715 (by decide +kernel) rfl
theorem tw718 : Cond.methodLink "TextMorphLaw" (107 : Nat) ({ cls := "TextMorphLaw", name := "way", desc := "(LTextMorph;II[J)I" } : MethodName) ∈ xTb := tb 718 (by decide +kernel) rfl
theorem tw719 : Cond.static ({ cls := "TextMorphLaw", name := "way", desc := "(LTextMorph;II[J)I" } : MethodName) ∈ xTb := tb 719 (by decide +kernel) rfl
theorem tw720 : Cond.codeWith ({ cls := "TextMorphLaw", name := "way", desc := "(LTextMorph;II[J)I" } : MethodName) method_9_code (5 : Nat) (Option.some FieldType.int) [((0 : Nat), (10 : Nat), (13 : Nat), (13 : Nat)), ((0 : Nat), (10 : Nat), (17 : Nat), (15 : Nat))] ∈ xTb := tb 720 (by decide +kernel) rfl
theorem tw721 : Cond.methodLink "TextMorphLaw" (38 : Nat) ({ cls := "TextMorph", name := "way", desc := "(II)I" } : MethodName) ∈ xTb := tb 721 (by decide +kernel) rfl
theorem tw722 : Cond.instanceMethod ({ cls := "TextMorph", name := "way", desc := "(II)I" } : MethodName) ∈ xTb := tb 722 (by decide +kernel) rfl
theorem tw723 : Cond.selects "TextMorph" ({ cls := "TextMorph", name := "way", desc := "(II)I" } : MethodName) ({ cls := "TextMorph", name := "way", desc := "(II)I" } : MethodName) ∈ xTb := tb 723 (by decide +kernel) rfl
theorem tw724 : Cond.code ({ cls := "TextMorph", name := "way", desc := "(II)I" } : MethodName) prog_1_method_12_code (3 : Nat) (Option.some FieldType.int) ∈ xTb := tb 724 (by decide +kernel) rfl
theorem tw725 : Cond.methodLink "TextMorph" (161 : Nat) ({ cls := "TextMorph", name := "isPiece", desc := "(I)Z" } : MethodName) ∈ xTb := tb 725 (by decide +kernel) rfl
theorem tw727 : Cond.instanceMethod ({ cls := "TextMorph", name := "isPiece", desc := "(I)Z" } : MethodName) ∈ xTb := tb 727 (by decide +kernel) rfl
theorem tw728 : Cond.code ({ cls := "TextMorph", name := "isPiece", desc := "(I)Z" } : MethodName) prog_1_method_30_code (2 : Nat) (Option.some FieldType.boolean) ∈ xTb := tb 728 (by decide +kernel) rfl
theorem tw730 : Cond.methodLink "TextMorphLaw" (110 : Nat) ({ cls := "TextMorphLaw", name := "at", desc := "(LTextMorph;III[J)I" } : MethodName) ∈ xTb := tb 730 (by decide +kernel) rfl
theorem tw731 : Cond.static ({ cls := "TextMorphLaw", name := "at", desc := "(LTextMorph;III[J)I" } : MethodName) ∈ xTb := tb 731 (by decide +kernel) rfl
theorem tw732 : Cond.codeWith ({ cls := "TextMorphLaw", name := "at", desc := "(LTextMorph;III[J)I" } : MethodName) method_10_code (6 : Nat) (Option.some FieldType.int) [((0 : Nat), (12 : Nat), (15 : Nat), (13 : Nat))] ∈ xTb := tb 732 (by decide +kernel) rfl
theorem tw733 : Cond.methodLink "TextMorphLaw" (41 : Nat) ({ cls := "TextMorph", name := "at", desc := "(III)I" } : MethodName) ∈ xTb := tb 733 (by decide +kernel) rfl
theorem tw734 : Cond.instanceMethod ({ cls := "TextMorph", name := "at", desc := "(III)I" } : MethodName) ∈ xTb := tb 734 (by decide +kernel) rfl
theorem tw735 : Cond.selects "TextMorph" ({ cls := "TextMorph", name := "at", desc := "(III)I" } : MethodName) ({ cls := "TextMorph", name := "at", desc := "(III)I" } : MethodName) ∈ xTb := tb 735 (by decide +kernel) rfl
theorem tw736 : Cond.code ({ cls := "TextMorph", name := "at", desc := "(III)I" } : MethodName) prog_1_method_13_code (4 : Nat) (Option.some FieldType.int) ∈ xTb := tb 736 (by decide +kernel) rfl
theorem tw737 : Cond.methodLink "TextMorph" (170 : Nat) ({ cls := "TextMorph", name := "isFrame", desc := "(I)Z" } : MethodName) ∈ xTb := tb 737 (by decide +kernel) rfl
theorem tw739 : Cond.instanceMethod ({ cls := "TextMorph", name := "isFrame", desc := "(I)Z" } : MethodName) ∈ xTb := tb 739 (by decide +kernel) rfl
theorem tw740 : Cond.code ({ cls := "TextMorph", name := "isFrame", desc := "(I)Z" } : MethodName) prog_1_method_29_code (2 : Nat) (Option.some FieldType.boolean) ∈ xTb := tb 740 (by decide +kernel) rfl
theorem tw742 : Cond.methodLink "TextMorphLaw" (113 : Nat) ({ cls := "TextMorphLaw", name := "place", desc := "(LTextMorph;II[J)I" } : MethodName) ∈ xTb := tb 742 (by decide +kernel) rfl
theorem tw743 : Cond.static ({ cls := "TextMorphLaw", name := "place", desc := "(LTextMorph;II[J)I" } : MethodName) ∈ xTb := tb 743 (by decide +kernel) rfl
theorem tw744 : Cond.codeWith ({ cls := "TextMorphLaw", name := "place", desc := "(LTextMorph;II[J)I" } : MethodName) method_11_code (5 : Nat) (Option.some FieldType.int) [((0 : Nat), (10 : Nat), (13 : Nat), (13 : Nat))] ∈ xTb := tb 744 (by decide +kernel) rfl
theorem tw745 : Cond.methodLink "TextMorphLaw" (44 : Nat) ({ cls := "TextMorph", name := "place", desc := "(II)I" } : MethodName) ∈ xTb := tb 745 (by decide +kernel) rfl
theorem tw746 : Cond.instanceMethod ({ cls := "TextMorph", name := "place", desc := "(II)I" } : MethodName) ∈ xTb := tb 746 (by decide +kernel) rfl
theorem tw747 : Cond.selects "TextMorph" ({ cls := "TextMorph", name := "place", desc := "(II)I" } : MethodName) ({ cls := "TextMorph", name := "place", desc := "(II)I" } : MethodName) ∈ xTb := tb 747 (by decide +kernel) rfl
theorem tw748 : Cond.code ({ cls := "TextMorph", name := "place", desc := "(II)I" } : MethodName) prog_1_method_14_code (3 : Nat) (Option.some FieldType.int) ∈ xTb := tb 748 (by decide +kernel) rfl
theorem tw750 : Cond.methodLink "TextMorph" (180 : Nat) ({ cls := "TextMorph$Morph", name := "cellOf", desc := "(II)I" } : MethodName) ∈ xTb := tb 750 (by decide +kernel) rfl
theorem tw751 : Cond.methodLink "TextMorphLaw" (116 : Nat) ({ cls := "TextMorphLaw", name := "frame", desc := "(LTextMorph;II[J)I" } : MethodName) ∈ xTb := tb 751 (by decide +kernel) rfl
theorem tw752 : Cond.static ({ cls := "TextMorphLaw", name := "frame", desc := "(LTextMorph;II[J)I" } : MethodName) ∈ xTb := tb 752 (by decide +kernel) rfl
theorem tw753 : Cond.codeWith ({ cls := "TextMorphLaw", name := "frame", desc := "(LTextMorph;II[J)I" } : MethodName) method_12_code (5 : Nat) (Option.some FieldType.int) [((0 : Nat), (10 : Nat), (13 : Nat), (13 : Nat)), ((0 : Nat), (10 : Nat), (17 : Nat), (15 : Nat))] ∈ xTb := tb 753 (by decide +kernel) rfl
theorem tw754 : Cond.methodLink "TextMorphLaw" (47 : Nat) ({ cls := "TextMorph", name := "frame", desc := "(II)I" } : MethodName) ∈ xTb := tb 754 (by decide +kernel) rfl
theorem tw755 : Cond.instanceMethod ({ cls := "TextMorph", name := "frame", desc := "(II)I" } : MethodName) ∈ xTb := tb 755 (by decide +kernel) rfl
theorem tw756 : Cond.selects "TextMorph" ({ cls := "TextMorph", name := "frame", desc := "(II)I" } : MethodName) ({ cls := "TextMorph", name := "frame", desc := "(II)I" } : MethodName) ∈ xTb := tb 756 (by decide +kernel) rfl
theorem tw757 : Cond.code ({ cls := "TextMorph", name := "frame", desc := "(II)I" } : MethodName) prog_1_method_15_code (3 : Nat) (Option.some FieldType.int) ∈ xTb := tb 757 (by decide +kernel) rfl
theorem tw759 : Cond.methodLink "TextMorphLaw" (119 : Nat) ({ cls := "TextMorphLaw", name := "count", desc := "(LTextMorph;I[J)I" } : MethodName) ∈ xTb := tb 759 (by decide +kernel) rfl
theorem tw760 : Cond.static ({ cls := "TextMorphLaw", name := "count", desc := "(LTextMorph;I[J)I" } : MethodName) ∈ xTb := tb 760 (by decide +kernel) rfl
theorem tw761 : Cond.codeWith ({ cls := "TextMorphLaw", name := "count", desc := "(LTextMorph;I[J)I" } : MethodName) method_13_code (4 : Nat) (Option.some FieldType.int) [((0 : Nat), (9 : Nat), (12 : Nat), (15 : Nat))] ∈ xTb := tb 761 (by decide +kernel) rfl
theorem tw762 : Cond.methodLink "TextMorphLaw" (50 : Nat) ({ cls := "TextMorph", name := "count", desc := "(I)I" } : MethodName) ∈ xTb := tb 762 (by decide +kernel) rfl
theorem tw763 : Cond.instanceMethod ({ cls := "TextMorph", name := "count", desc := "(I)I" } : MethodName) ∈ xTb := tb 763 (by decide +kernel) rfl
theorem tw764 : Cond.selects "TextMorph" ({ cls := "TextMorph", name := "count", desc := "(I)I" } : MethodName) ({ cls := "TextMorph", name := "count", desc := "(I)I" } : MethodName) ∈ xTb := tb 764 (by decide +kernel) rfl
theorem tw765 : Cond.code ({ cls := "TextMorph", name := "count", desc := "(I)I" } : MethodName) prog_1_method_16_code (2 : Nat) (Option.some FieldType.int) ∈ xTb := tb 765 (by decide +kernel) rfl
theorem tw767 : Cond.methodLink "TextMorphLaw" (122 : Nat) ({ cls := "TextMorphLaw", name := "setting", desc := "(LTextMorph;I[J)I" } : MethodName) ∈ xTb := tb 767 (by decide +kernel) rfl
theorem tw768 : Cond.static ({ cls := "TextMorphLaw", name := "setting", desc := "(LTextMorph;I[J)I" } : MethodName) ∈ xTb := tb 768 (by decide +kernel) rfl
theorem tw769 : Cond.codeWith ({ cls := "TextMorphLaw", name := "setting", desc := "(LTextMorph;I[J)I" } : MethodName) method_14_code (4 : Nat) (Option.some FieldType.int) [((0 : Nat), (9 : Nat), (12 : Nat), (13 : Nat))] ∈ xTb := tb 769 (by decide +kernel) rfl
theorem tw770 : Cond.methodLink "TextMorphLaw" (53 : Nat) ({ cls := "TextMorph", name := "setting", desc := "(I)I" } : MethodName) ∈ xTb := tb 770 (by decide +kernel) rfl
theorem tw771 : Cond.instanceMethod ({ cls := "TextMorph", name := "setting", desc := "(I)I" } : MethodName) ∈ xTb := tb 771 (by decide +kernel) rfl
theorem tw772 : Cond.selects "TextMorph" ({ cls := "TextMorph", name := "setting", desc := "(I)I" } : MethodName) ({ cls := "TextMorph", name := "setting", desc := "(I)I" } : MethodName) ∈ xTb := tb 772 (by decide +kernel) rfl
theorem tw773 : Cond.code ({ cls := "TextMorph", name := "setting", desc := "(I)I" } : MethodName) prog_1_method_17_code (2 : Nat) (Option.some FieldType.int) ∈ xTb := tb 773 (by decide +kernel) rfl
theorem tw774 : Cond.methodLink "TextMorphLaw" (125 : Nat) ({ cls := "TextMorphLaw", name := "ifSet", desc := "(LTextMorph;III[J)I" } : MethodName) ∈ xTb := tb 774 (by decide +kernel) rfl
theorem tw775 : Cond.static ({ cls := "TextMorphLaw", name := "ifSet", desc := "(LTextMorph;III[J)I" } : MethodName) ∈ xTb := tb 775 (by decide +kernel) rfl
theorem tw776 : Cond.codeWith ({ cls := "TextMorphLaw", name := "ifSet", desc := "(LTextMorph;III[J)I" } : MethodName) method_15_code (6 : Nat) (Option.some FieldType.int) [((0 : Nat), (12 : Nat), (15 : Nat), (13 : Nat)), ((0 : Nat), (12 : Nat), (19 : Nat), (15 : Nat))] ∈ xTb := tb 776 (by decide +kernel) rfl
theorem tw777 : Cond.methodLink "TextMorphLaw" (56 : Nat) ({ cls := "TextMorph", name := "ifSet", desc := "(III)I" } : MethodName) ∈ xTb := tb 777 (by decide +kernel) rfl
theorem tw778 : Cond.instanceMethod ({ cls := "TextMorph", name := "ifSet", desc := "(III)I" } : MethodName) ∈ xTb := tb 778 (by decide +kernel) rfl
theorem tw779 : Cond.selects "TextMorph" ({ cls := "TextMorph", name := "ifSet", desc := "(III)I" } : MethodName) ({ cls := "TextMorph", name := "ifSet", desc := "(III)I" } : MethodName) ∈ xTb := tb 779 (by decide +kernel) rfl
theorem tw780 : Cond.code ({ cls := "TextMorph", name := "ifSet", desc := "(III)I" } : MethodName) prog_1_method_18_code (4 : Nat) (Option.some FieldType.int) ∈ xTb := tb 780 (by decide +kernel) rfl
theorem tw782 : Cond.classLink "TextMorphLaw" (60 : Nat) "TextMorphModel" ∈ xTb := tb 782 (by decide +kernel) rfl
theorem tw783 : Cond.instantiable "TextMorphModel" (21 : Nat) ∈ xTb := tb 783 (by decide +kernel) rfl
theorem tw784 : Cond.methodLink "TextMorphLaw" (62 : Nat) ({ cls := "TextMorphModel", name := "<init>", desc := "()V" } : MethodName) ∈ xTb := tb 784 (by decide +kernel) rfl
theorem tw785 : Cond.instanceMethod ({ cls := "TextMorphModel", name := "<init>", desc := "()V" } : MethodName) ∈ xTb := tb 785 (by decide +kernel) rfl
theorem tw786 : Cond.code ({ cls := "TextMorphModel", name := "<init>", desc := "()V" } : MethodName) prog_9_method_1_code (1 : Nat) (Option.none : Option FieldType) ∈ xTb := tb 786 (by decide +kernel) rfl
theorem tw787 : Cond.methodLink "TextMorphModel" (1 : Nat) ({ cls := "java/lang/Object", name := "<init>", desc := "()V" } : MethodName) ∈ xTb := tb 787 (by decide +kernel) rfl
theorem tw788 : Cond.methodLink "TextMorphModel" (58 : Nat) ({ cls := "TextMorphModel", name := "fresh", desc := "()V" } : MethodName) ∈ xTb := tb 788 (by decide +kernel) rfl
theorem tw790 : Cond.instanceMethod ({ cls := "TextMorphModel", name := "fresh", desc := "()V" } : MethodName) ∈ xTb := tb 790 (by decide +kernel) rfl
theorem tw791 : Cond.code ({ cls := "TextMorphModel", name := "fresh", desc := "()V" } : MethodName) prog_9_method_4_code (2 : Nat) (Option.none : Option FieldType) ∈ xTb := tb 791 (by decide +kernel) rfl
theorem tw792 : Cond.fieldLink "TextMorphModel" (61 : Nat) "TextMorphModel" "thrown" "I" ∈ xTb := tb 792 (by decide +kernel) rfl
theorem tw793 : Cond.fieldLink "TextMorphModel" (7 : Nat) "TextMorphModel" "z" "[I" ∈ xTb := tb 793 (by decide +kernel) rfl
theorem tw794 : Cond.fieldLink "TextMorphModel" (143 : Nat) "TextMorphModel" "saves" "I" ∈ xTb := tb 794 (by decide +kernel) rfl
theorem tw795 : Cond.fieldLink "TextMorphModel" (13 : Nat) "TextMorphModel" "saved" "[I" ∈ xTb := tb 795 (by decide +kernel) rfl
theorem tw796 : Cond.fieldLink "TextMorphModel" (176 : Nat) "TextMorphModel" "length" "I" ∈ xTb := tb 796 (by decide +kernel) rfl
theorem tw797 : Cond.fieldLink "TextMorphModel" (16 : Nat) "TextMorphModel" "text" "[I" ∈ xTb := tb 797 (by decide +kernel) rfl
theorem tw798 : Cond.fieldLink "TextMorphModel" (19 : Nat) "TextMorphModel" "many" "[I" ∈ xTb := tb 798 (by decide +kernel) rfl
theorem tw799 : Cond.fieldLink "TextMorphModel" (22 : Nat) "TextMorphModel" "cellOf" "[I" ∈ xTb := tb 799 (by decide +kernel) rfl
theorem tw800 : Cond.fieldLink "TextMorphModel" (25 : Nat) "TextMorphModel" "codeOf" "[I" ∈ xTb := tb 800 (by decide +kernel) rfl
theorem tw801 : Cond.fieldLink "TextMorphModel" (28 : Nat) "TextMorphModel" "partner" "[I" ∈ xTb := tb 801 (by decide +kernel) rfl
theorem tw802 : Cond.fieldLink "TextMorphModel" (31 : Nat) "TextMorphModel" "kindOf" "[I" ∈ xTb := tb 802 (by decide +kernel) rfl
theorem tw803 : Cond.fieldLink "TextMorphModel" (34 : Nat) "TextMorphModel" "longest" "[I" ∈ xTb := tb 803 (by decide +kernel) rfl
theorem tw804 : Cond.fieldLink "TextMorphModel" (101 : Nat) "TextMorphModel" "moving" "I" ∈ xTb := tb 804 (by decide +kernel) rfl
theorem tw805 : Cond.fieldLink "TextMorphModel" (37 : Nat) "TextMorphModel" "spot" "[I" ∈ xTb := tb 805 (by decide +kernel) rfl
theorem tw806 : Cond.fieldLink "TextMorphModel" (40 : Nat) "TextMorphModel" "heldIn" "[I" ∈ xTb := tb 806 (by decide +kernel) rfl
theorem tw807 : Cond.fieldLink "TextMorphModel" (43 : Nat) "TextMorphModel" "heldSum" "[I" ∈ xTb := tb 807 (by decide +kernel) rfl
theorem tw808 : Cond.fieldLink "TextMorphModel" (46 : Nat) "TextMorphModel" "heldNow" "[I" ∈ xTb := tb 808 (by decide +kernel) rfl
theorem tw809 : Cond.fieldLink "TextMorphModel" (49 : Nat) "TextMorphModel" "cell" "[I" ∈ xTb := tb 809 (by decide +kernel) rfl
theorem tw810 : Cond.fieldLink "TextMorphModel" (52 : Nat) "TextMorphModel" "arrives" "[I" ∈ xTb := tb 810 (by decide +kernel) rfl
theorem tw811 : Cond.fieldLink "TextMorphModel" (55 : Nat) "TextMorphModel" "read" "[I" ∈ xTb := tb 811 (by decide +kernel) rfl
theorem tw812 : Cond.fieldLink "TextMorphModel" (224 : Nat) "TextMorphModel" "h" "J" ∈ xTb := tb 812 (by decide +kernel) rfl
theorem tw856 : Cond.methodLink "TextMorphLaw" (73 : Nat) ({ cls := "TextMorphModel", name := "thrown", desc := "()I" } : MethodName) ∈ xTb := tb 856 (by decide +kernel) rfl
theorem tw857 : Cond.instanceMethod ({ cls := "TextMorphModel", name := "thrown", desc := "()I" } : MethodName) ∈ xTb := tb 857 (by decide +kernel) rfl
theorem tw858 : Cond.selects "TextMorphModel" ({ cls := "TextMorphModel", name := "thrown", desc := "()I" } : MethodName) ({ cls := "TextMorphModel", name := "thrown", desc := "()I" } : MethodName) ∈ xTb := tb 858 (by decide +kernel) rfl
theorem tw859 : Cond.code ({ cls := "TextMorphModel", name := "thrown", desc := "()I" } : MethodName) prog_9_method_2_code (1 : Nat) (Option.some FieldType.int) ∈ xTb := tb 859 (by decide +kernel) rfl
theorem tw860 : Cond.methodLink "TextMorphLaw" (91 : Nat) ({ cls := "TextMorphModel", name := "undo", desc := "()I" } : MethodName) ∈ xTb := tb 860 (by decide +kernel) rfl
theorem tw861 : Cond.instanceMethod ({ cls := "TextMorphModel", name := "undo", desc := "()I" } : MethodName) ∈ xTb := tb 861 (by decide +kernel) rfl
theorem tw862 : Cond.selects "TextMorphModel" ({ cls := "TextMorphModel", name := "undo", desc := "()I" } : MethodName) ({ cls := "TextMorphModel", name := "undo", desc := "()I" } : MethodName) ∈ xTb := tb 862 (by decide +kernel) rfl
theorem tw863 : Cond.code ({ cls := "TextMorphModel", name := "undo", desc := "()I" } : MethodName) prog_9_method_32_code (2 : Nat) (Option.some FieldType.int) ∈ xTb := tb 863 (by decide +kernel) rfl
theorem tw864 : Cond.methodLink "TextMorphLaw" (66 : Nat) ({ cls := "TextMorphModel", name := "begin", desc := "()I" } : MethodName) ∈ xTb := tb 864 (by decide +kernel) rfl
theorem tw865 : Cond.instanceMethod ({ cls := "TextMorphModel", name := "begin", desc := "()I" } : MethodName) ∈ xTb := tb 865 (by decide +kernel) rfl
theorem tw866 : Cond.selects "TextMorphModel" ({ cls := "TextMorphModel", name := "begin", desc := "()I" } : MethodName) ({ cls := "TextMorphModel", name := "begin", desc := "()I" } : MethodName) ∈ xTb := tb 866 (by decide +kernel) rfl
theorem tw867 : Cond.code ({ cls := "TextMorphModel", name := "begin", desc := "()I" } : MethodName) prog_9_method_33_code (2 : Nat) (Option.some FieldType.int) ∈ xTb := tb 867 (by decide +kernel) rfl
theorem tw868 : Cond.methodLink "TextMorphModel" (146 : Nat) ({ cls := "TextMorphModel", name := "save", desc := "()V" } : MethodName) ∈ xTb := tb 868 (by decide +kernel) rfl
theorem tw870 : Cond.instanceMethod ({ cls := "TextMorphModel", name := "save", desc := "()V" } : MethodName) ∈ xTb := tb 870 (by decide +kernel) rfl
theorem tw871 : Cond.code ({ cls := "TextMorphModel", name := "save", desc := "()V" } : MethodName) prog_9_method_31_code (2 : Nat) (Option.none : Option FieldType) ∈ xTb := tb 871 (by decide +kernel) rfl
theorem tw872 : Cond.methodLink "TextMorphModel" (149 : Nat) ({ cls := "TextMorphModel", name := "lettersOf", desc := "(I)I" } : MethodName) ∈ xTb := tb 872 (by decide +kernel) rfl
theorem tw874 : Cond.instanceMethod ({ cls := "TextMorphModel", name := "lettersOf", desc := "(I)I" } : MethodName) ∈ xTb := tb 874 (by decide +kernel) rfl
theorem tw875 : Cond.code ({ cls := "TextMorphModel", name := "lettersOf", desc := "(I)I" } : MethodName) prog_9_method_7_code (4 : Nat) (Option.some FieldType.int) ∈ xTb := tb 875 (by decide +kernel) rfl
theorem tw876 : Cond.methodLink "TextMorphLaw" (72 : Nat) ({ cls := "TextMorphModel", name := "set", desc := "(II)I" } : MethodName) ∈ xTb := tb 876 (by decide +kernel) rfl
theorem tw877 : Cond.instanceMethod ({ cls := "TextMorphModel", name := "set", desc := "(II)I" } : MethodName) ∈ xTb := tb 877 (by decide +kernel) rfl
theorem tw878 : Cond.selects "TextMorphModel" ({ cls := "TextMorphModel", name := "set", desc := "(II)I" } : MethodName) ({ cls := "TextMorphModel", name := "set", desc := "(II)I" } : MethodName) ∈ xTb := tb 878 (by decide +kernel) rfl
theorem tw879 : Cond.code ({ cls := "TextMorphModel", name := "set", desc := "(II)I" } : MethodName) prog_9_method_37_code (3 : Nat) (Option.some FieldType.int) ∈ xTb := tb 879 (by decide +kernel) rfl
theorem tw880 : Cond.methodLink "TextMorphModel" (152 : Nat) ({ cls := "TextMorphModel", name := "isSetting", desc := "(I)Z" } : MethodName) ∈ xTb := tb 880 (by decide +kernel) rfl
theorem tw881 : Cond.static ({ cls := "TextMorphModel", name := "isSetting", desc := "(I)Z" } : MethodName) ∈ xTb := tb 881 (by decide +kernel) rfl
theorem tw882 : Cond.code ({ cls := "TextMorphModel", name := "isSetting", desc := "(I)Z" } : MethodName) prog_9_method_35_code (1 : Nat) (Option.some FieldType.boolean) ∈ xTb := tb 882 (by decide +kernel) rfl
theorem tw883 : Cond.methodLink "TextMorphModel" (65 : Nat) ({ cls := "TextMorphModel", name := "within", desc := "(III)Z" } : MethodName) ∈ xTb := tb 883 (by decide +kernel) rfl
theorem tw884 : Cond.static ({ cls := "TextMorphModel", name := "within", desc := "(III)Z" } : MethodName) ∈ xTb := tb 884 (by decide +kernel) rfl
theorem tw885 : Cond.code ({ cls := "TextMorphModel", name := "within", desc := "(III)Z" } : MethodName) prog_9_method_3_code (3 : Nat) (Option.some FieldType.boolean) ∈ xTb := tb 885 (by decide +kernel) rfl
theorem tw886 : Cond.methodLink "TextMorphModel" (155 : Nat) ({ cls := "TextMorphModel", name := "isValue", desc := "(II)Z" } : MethodName) ∈ xTb := tb 886 (by decide +kernel) rfl
theorem tw887 : Cond.static ({ cls := "TextMorphModel", name := "isValue", desc := "(II)Z" } : MethodName) ∈ xTb := tb 887 (by decide +kernel) rfl
theorem tw888 : Cond.code ({ cls := "TextMorphModel", name := "isValue", desc := "(II)Z" } : MethodName) prog_9_method_34_code (2 : Nat) (Option.some FieldType.boolean) ∈ xTb := tb 888 (by decide +kernel) rfl
theorem tw889 : Cond.methodLink "TextMorphModel" (158 : Nat) ({ cls := "TextMorphModel", name := "replaced", desc := "(II)I" } : MethodName) ∈ xTb := tb 889 (by decide +kernel) rfl
theorem tw891 : Cond.instanceMethod ({ cls := "TextMorphModel", name := "replaced", desc := "(II)I" } : MethodName) ∈ xTb := tb 891 (by decide +kernel) rfl
theorem tw892 : Cond.code ({ cls := "TextMorphModel", name := "replaced", desc := "(II)I" } : MethodName) prog_9_method_36_code (4 : Nat) (Option.some FieldType.int) ∈ xTb := tb 892 (by decide +kernel) rfl
theorem tw893 : Cond.methodLink "TextMorphLaw" (83 : Nat) ({ cls := "TextMorphModel", name := "put", desc := "(IIII)I" } : MethodName) ∈ xTb := tb 893 (by decide +kernel) rfl
theorem tw894 : Cond.instanceMethod ({ cls := "TextMorphModel", name := "put", desc := "(IIII)I" } : MethodName) ∈ xTb := tb 894 (by decide +kernel) rfl
theorem tw895 : Cond.selects "TextMorphModel" ({ cls := "TextMorphModel", name := "put", desc := "(IIII)I" } : MethodName) ({ cls := "TextMorphModel", name := "put", desc := "(IIII)I" } : MethodName) ∈ xTb := tb 895 (by decide +kernel) rfl
theorem tw896 : Cond.code ({ cls := "TextMorphModel", name := "put", desc := "(IIII)I" } : MethodName) prog_9_method_40_code (7 : Nat) (Option.some FieldType.int) ∈ xTb := tb 896 (by decide +kernel) rfl
theorem tw897 : Cond.methodLink "TextMorphModel" (161 : Nat) ({ cls := "TextMorphModel", name := "isText", desc := "(I)Z" } : MethodName) ∈ xTb := tb 897 (by decide +kernel) rfl
theorem tw898 : Cond.static ({ cls := "TextMorphModel", name := "isText", desc := "(I)Z" } : MethodName) ∈ xTb := tb 898 (by decide +kernel) rfl
theorem tw899 : Cond.code ({ cls := "TextMorphModel", name := "isText", desc := "(I)Z" } : MethodName) prog_9_method_38_code (1 : Nat) (Option.some FieldType.boolean) ∈ xTb := tb 899 (by decide +kernel) rfl
theorem tw900 : Cond.methodLink "TextMorphModel" (164 : Nat) ({ cls := "TextMorphModel", name := "isCell", desc := "(II)Z" } : MethodName) ∈ xTb := tb 900 (by decide +kernel) rfl
theorem tw901 : Cond.static ({ cls := "TextMorphModel", name := "isCell", desc := "(II)Z" } : MethodName) ∈ xTb := tb 901 (by decide +kernel) rfl
theorem tw902 : Cond.code ({ cls := "TextMorphModel", name := "isCell", desc := "(II)Z" } : MethodName) prog_9_method_39_code (2 : Nat) (Option.some FieldType.boolean) ∈ xTb := tb 902 (by decide +kernel) rfl
theorem tw903 : Cond.methodLink "TextMorphModel" (167 : Nat) ({ cls := "TextMorphModel", name := "isLetter", desc := "(I)Z" } : MethodName) ∈ xTb := tb 903 (by decide +kernel) rfl
theorem tw904 : Cond.static ({ cls := "TextMorphModel", name := "isLetter", desc := "(I)Z" } : MethodName) ∈ xTb := tb 904 (by decide +kernel) rfl
theorem tw905 : Cond.code ({ cls := "TextMorphModel", name := "isLetter", desc := "(I)Z" } : MethodName) prog_9_method_6_code (1 : Nat) (Option.some FieldType.boolean) ∈ xTb := tb 905 (by decide +kernel) rfl
theorem tw906 : Cond.methodLink "TextMorphLaw" (87 : Nat) ({ cls := "TextMorphModel", name := "swap", desc := "()I" } : MethodName) ∈ xTb := tb 906 (by decide +kernel) rfl
theorem tw907 : Cond.instanceMethod ({ cls := "TextMorphModel", name := "swap", desc := "()I" } : MethodName) ∈ xTb := tb 907 (by decide +kernel) rfl
theorem tw908 : Cond.selects "TextMorphModel" ({ cls := "TextMorphModel", name := "swap", desc := "()I" } : MethodName) ({ cls := "TextMorphModel", name := "swap", desc := "()I" } : MethodName) ∈ xTb := tb 908 (by decide +kernel) rfl
theorem tw909 : Cond.code ({ cls := "TextMorphModel", name := "swap", desc := "()I" } : MethodName) prog_9_method_41_code (3 : Nat) (Option.some FieldType.int) ∈ xTb := tb 909 (by decide +kernel) rfl
theorem tw910 : Cond.methodLink "TextMorphModel" (170 : Nat) ({ cls := "TextMorphModel", name := "lay", desc := "()V" } : MethodName) ∈ xTb := tb 910 (by decide +kernel) rfl
theorem tw912 : Cond.instanceMethod ({ cls := "TextMorphModel", name := "lay", desc := "()V" } : MethodName) ∈ xTb := tb 912 (by decide +kernel) rfl
theorem tw913 : Cond.code ({ cls := "TextMorphModel", name := "lay", desc := "()V" } : MethodName) prog_9_method_25_code (1 : Nat) (Option.none : Option FieldType) ∈ xTb := tb 913 (by decide +kernel) rfl
theorem tw914 : Cond.methodLink "TextMorphModel" (121 : Nat) ({ cls := "TextMorphModel", name := "layLetters", desc := "()V" } : MethodName) ∈ xTb := tb 914 (by decide +kernel) rfl
theorem tw916 : Cond.instanceMethod ({ cls := "TextMorphModel", name := "layLetters", desc := "()V" } : MethodName) ∈ xTb := tb 916 (by decide +kernel) rfl
theorem tw917 : Cond.code ({ cls := "TextMorphModel", name := "layLetters", desc := "()V" } : MethodName) prog_9_method_8_code (4 : Nat) (Option.none : Option FieldType) ∈ xTb := tb 917 (by decide +kernel) rfl
theorem tw918 : Cond.methodLink "TextMorphModel" (124 : Nat) ({ cls := "TextMorphModel", name := "layCommon", desc := "()V" } : MethodName) ∈ xTb := tb 918 (by decide +kernel) rfl
theorem tw920 : Cond.instanceMethod ({ cls := "TextMorphModel", name := "layCommon", desc := "()V" } : MethodName) ∈ xTb := tb 920 (by decide +kernel) rfl
theorem tw921 : Cond.code ({ cls := "TextMorphModel", name := "layCommon", desc := "()V" } : MethodName) prog_9_method_13_code (6 : Nat) (Option.none : Option FieldType) ∈ xTb := tb 921 (by decide +kernel) rfl
theorem tw922 : Cond.methodLink "TextMorphModel" (76 : Nat) ({ cls := "TextMorphModel", name := "areEqual", desc := "(II)Z" } : MethodName) ∈ xTb := tb 922 (by decide +kernel) rfl
theorem tw924 : Cond.instanceMethod ({ cls := "TextMorphModel", name := "areEqual", desc := "(II)Z" } : MethodName) ∈ xTb := tb 924 (by decide +kernel) rfl
theorem tw925 : Cond.code ({ cls := "TextMorphModel", name := "areEqual", desc := "(II)Z" } : MethodName) prog_9_method_12_code (3 : Nat) (Option.some FieldType.boolean) ∈ xTb := tb 925 (by decide +kernel) rfl
theorem tw926 : Cond.methodLink "TextMorphModel" (80 : Nat) ({ cls := "TextMorphModel", name := "pair", desc := "(III)V" } : MethodName) ∈ xTb := tb 926 (by decide +kernel) rfl
theorem tw928 : Cond.instanceMethod ({ cls := "TextMorphModel", name := "pair", desc := "(III)V" } : MethodName) ∈ xTb := tb 928 (by decide +kernel) rfl
theorem tw929 : Cond.code ({ cls := "TextMorphModel", name := "pair", desc := "(III)V" } : MethodName) prog_9_method_9_code (4 : Nat) (Option.none : Option FieldType) ∈ xTb := tb 929 (by decide +kernel) rfl
theorem tw930 : Cond.methodLink "TextMorphModel" (127 : Nat) ({ cls := "TextMorphModel", name := "layNearest", desc := "(I)V" } : MethodName) ∈ xTb := tb 930 (by decide +kernel) rfl
theorem tw932 : Cond.instanceMethod ({ cls := "TextMorphModel", name := "layNearest", desc := "(I)V" } : MethodName) ∈ xTb := tb 932 (by decide +kernel) rfl
theorem tw933 : Cond.code ({ cls := "TextMorphModel", name := "layNearest", desc := "(I)V" } : MethodName) prog_9_method_15_code (7 : Nat) (Option.none : Option FieldType) ∈ xTb := tb 933 (by decide +kernel) rfl
theorem tw934 : Cond.methodLink "TextMorphModel" (88 : Nat) ({ cls := "TextMorphModel", name := "canPair", desc := "(III)Z" } : MethodName) ∈ xTb := tb 934 (by decide +kernel) rfl
theorem tw936 : Cond.instanceMethod ({ cls := "TextMorphModel", name := "canPair", desc := "(III)Z" } : MethodName) ∈ xTb := tb 936 (by decide +kernel) rfl
theorem tw937 : Cond.code ({ cls := "TextMorphModel", name := "canPair", desc := "(III)Z" } : MethodName) prog_9_method_14_code (7 : Nat) (Option.some FieldType.boolean) ∈ xTb := tb 937 (by decide +kernel) rfl
theorem tw938 : Cond.methodLink "TextMorphModel" (84 : Nat) ({ cls := "TextMorphModel", name := "distance", desc := "(II)I" } : MethodName) ∈ xTb := tb 938 (by decide +kernel) rfl
theorem tw940 : Cond.instanceMethod ({ cls := "TextMorphModel", name := "distance", desc := "(II)I" } : MethodName) ∈ xTb := tb 940 (by decide +kernel) rfl
theorem tw941 : Cond.code ({ cls := "TextMorphModel", name := "distance", desc := "(II)I" } : MethodName) prog_9_method_11_code (5 : Nat) (Option.some FieldType.int) ∈ xTb := tb 941 (by decide +kernel) rfl
theorem tw942 : Cond.methodLink "TextMorphModel" (69 : Nat) ({ cls := "TextMorphModel", name := "size", desc := "(I)I" } : MethodName) ∈ xTb := tb 942 (by decide +kernel) rfl
theorem tw943 : Cond.static ({ cls := "TextMorphModel", name := "size", desc := "(I)I" } : MethodName) ∈ xTb := tb 943 (by decide +kernel) rfl
theorem tw944 : Cond.code ({ cls := "TextMorphModel", name := "size", desc := "(I)I" } : MethodName) prog_9_method_10_code (1 : Nat) (Option.some FieldType.int) ∈ xTb := tb 944 (by decide +kernel) rfl
theorem tw945 : Cond.methodLink "TextMorphModel" (73 : Nat) ({ cls := "TextMorphModel", name := "of", desc := "(I)I" } : MethodName) ∈ xTb := tb 945 (by decide +kernel) rfl
theorem tw947 : Cond.instanceMethod ({ cls := "TextMorphModel", name := "of", desc := "(I)I" } : MethodName) ∈ xTb := tb 947 (by decide +kernel) rfl
theorem tw948 : Cond.code ({ cls := "TextMorphModel", name := "of", desc := "(I)I" } : MethodName) prog_9_method_5_code (2 : Nat) (Option.some FieldType.int) ∈ xTb := tb 948 (by decide +kernel) rfl
theorem tw949 : Cond.methodLink "TextMorphModel" (131 : Nat) ({ cls := "TextMorphModel", name := "layFrames", desc := "()V" } : MethodName) ∈ xTb := tb 949 (by decide +kernel) rfl
theorem tw951 : Cond.instanceMethod ({ cls := "TextMorphModel", name := "layFrames", desc := "()V" } : MethodName) ∈ xTb := tb 951 (by decide +kernel) rfl
theorem tw952 : Cond.code ({ cls := "TextMorphModel", name := "layFrames", desc := "()V" } : MethodName) prog_9_method_24_code (2 : Nat) (Option.none : Option FieldType) ∈ xTb := tb 952 (by decide +kernel) rfl
theorem tw953 : Cond.methodLink "TextMorphModel" (98 : Nat) ({ cls := "TextMorphModel", name := "ofKind", desc := "(II)I" } : MethodName) ∈ xTb := tb 953 (by decide +kernel) rfl
theorem tw955 : Cond.instanceMethod ({ cls := "TextMorphModel", name := "ofKind", desc := "(II)I" } : MethodName) ∈ xTb := tb 955 (by decide +kernel) rfl
theorem tw956 : Cond.code ({ cls := "TextMorphModel", name := "ofKind", desc := "(II)I" } : MethodName) prog_9_method_16_code (5 : Nat) (Option.some FieldType.int) ∈ xTb := tb 956 (by decide +kernel) rfl
theorem tw957 : Cond.methodLink "TextMorphModel" (114 : Nat) ({ cls := "TextMorphModel", name := "layFrame", desc := "()V" } : MethodName) ∈ xTb := tb 957 (by decide +kernel) rfl
theorem tw959 : Cond.instanceMethod ({ cls := "TextMorphModel", name := "layFrame", desc := "()V" } : MethodName) ∈ xTb := tb 959 (by decide +kernel) rfl
theorem tw960 : Cond.code ({ cls := "TextMorphModel", name := "layFrame", desc := "()V" } : MethodName) prog_9_method_23_code (4 : Nat) (Option.none : Option FieldType) ∈ xTb := tb 960 (by decide +kernel) rfl
theorem tw961 : Cond.methodLink "TextMorphModel" (94 : Nat) ({ cls := "TextMorphModel", name := "isGoing", desc := "(I)Z" } : MethodName) ∈ xTb := tb 961 (by decide +kernel) rfl
theorem tw963 : Cond.instanceMethod ({ cls := "TextMorphModel", name := "isGoing", desc := "(I)Z" } : MethodName) ∈ xTb := tb 963 (by decide +kernel) rfl
theorem tw964 : Cond.code ({ cls := "TextMorphModel", name := "isGoing", desc := "(I)Z" } : MethodName) prog_9_method_17_code (2 : Nat) (Option.some FieldType.boolean) ∈ xTb := tb 964 (by decide +kernel) rfl
theorem tw965 : Cond.methodLink "TextMorphModel" (91 : Nat) ({ cls := "TextMorphModel", name := "goal", desc := "(I)I" } : MethodName) ∈ xTb := tb 965 (by decide +kernel) rfl
theorem tw967 : Cond.instanceMethod ({ cls := "TextMorphModel", name := "goal", desc := "(I)I" } : MethodName) ∈ xTb := tb 967 (by decide +kernel) rfl
theorem tw968 : Cond.code ({ cls := "TextMorphModel", name := "goal", desc := "(I)I" } : MethodName) prog_9_method_18_code (2 : Nat) (Option.some FieldType.int) ∈ xTb := tb 968 (by decide +kernel) rfl
theorem tw969 : Cond.methodLink "TextMorphModel" (104 : Nat) ({ cls := "TextMorphModel", name := "nextOf", desc := "(I)I" } : MethodName) ∈ xTb := tb 969 (by decide +kernel) rfl
theorem tw971 : Cond.instanceMethod ({ cls := "TextMorphModel", name := "nextOf", desc := "(I)I" } : MethodName) ∈ xTb := tb 971 (by decide +kernel) rfl
theorem tw972 : Cond.code ({ cls := "TextMorphModel", name := "nextOf", desc := "(I)I" } : MethodName) prog_9_method_20_code (6 : Nat) (Option.some FieldType.int) ∈ xTb := tb 972 (by decide +kernel) rfl
theorem tw973 : Cond.methodLink "TextMorphModel" (107 : Nat) ({ cls := "TextMorphModel", name := "isTaken", desc := "(II)Z" } : MethodName) ∈ xTb := tb 973 (by decide +kernel) rfl
theorem tw975 : Cond.instanceMethod ({ cls := "TextMorphModel", name := "isTaken", desc := "(II)Z" } : MethodName) ∈ xTb := tb 975 (by decide +kernel) rfl
theorem tw976 : Cond.code ({ cls := "TextMorphModel", name := "isTaken", desc := "(II)Z" } : MethodName) prog_9_method_21_code (5 : Nat) (Option.some FieldType.boolean) ∈ xTb := tb 976 (by decide +kernel) rfl
theorem tw977 : Cond.methodLink "TextMorphModel" (110 : Nat) ({ cls := "TextMorphModel", name := "firstMoving", desc := "()I" } : MethodName) ∈ xTb := tb 977 (by decide +kernel) rfl
theorem tw979 : Cond.instanceMethod ({ cls := "TextMorphModel", name := "firstMoving", desc := "()I" } : MethodName) ∈ xTb := tb 979 (by decide +kernel) rfl
theorem tw980 : Cond.code ({ cls := "TextMorphModel", name := "firstMoving", desc := "()I" } : MethodName) prog_9_method_22_code (1 : Nat) (Option.some FieldType.int) ∈ xTb := tb 980 (by decide +kernel) rfl
theorem tw981 : Cond.methodLink "TextMorphModel" (117 : Nat) ({ cls := "TextMorphModel", name := "anyGoes", desc := "()Z" } : MethodName) ∈ xTb := tb 981 (by decide +kernel) rfl
theorem tw983 : Cond.instanceMethod ({ cls := "TextMorphModel", name := "anyGoes", desc := "()Z" } : MethodName) ∈ xTb := tb 983 (by decide +kernel) rfl
theorem tw984 : Cond.code ({ cls := "TextMorphModel", name := "anyGoes", desc := "()Z" } : MethodName) prog_9_method_19_code (3 : Nat) (Option.some FieldType.boolean) ∈ xTb := tb 984 (by decide +kernel) rfl
theorem tw985 : Cond.methodLink "TextMorphModel" (173 : Nat) ({ cls := "TextMorphModel", name := "frames", desc := "()I" } : MethodName) ∈ xTb := tb 985 (by decide +kernel) rfl
theorem tw987 : Cond.instanceMethod ({ cls := "TextMorphModel", name := "frames", desc := "()I" } : MethodName) ∈ xTb := tb 987 (by decide +kernel) rfl
theorem tw988 : Cond.code ({ cls := "TextMorphModel", name := "frames", desc := "()I" } : MethodName) prog_9_method_26_code (1 : Nat) (Option.some FieldType.int) ∈ xTb := tb 988 (by decide +kernel) rfl
theorem tw989 : Cond.methodLink "TextMorphLaw" (94 : Nat) ({ cls := "TextMorphModel", name := "append", desc := "(I)I" } : MethodName) ∈ xTb := tb 989 (by decide +kernel) rfl
theorem tw990 : Cond.instanceMethod ({ cls := "TextMorphModel", name := "append", desc := "(I)I" } : MethodName) ∈ xTb := tb 990 (by decide +kernel) rfl
theorem tw991 : Cond.selects "TextMorphModel" ({ cls := "TextMorphModel", name := "append", desc := "(I)I" } : MethodName) ({ cls := "TextMorphModel", name := "append", desc := "(I)I" } : MethodName) ∈ xTb := tb 991 (by decide +kernel) rfl
theorem tw992 : Cond.code ({ cls := "TextMorphModel", name := "append", desc := "(I)I" } : MethodName) prog_9_method_42_code (2 : Nat) (Option.some FieldType.int) ∈ xTb := tb 992 (by decide +kernel) rfl
theorem tw993 : Cond.methodLink "TextMorphLaw" (98 : Nat) ({ cls := "TextMorphModel", name := "clearBuffer", desc := "()I" } : MethodName) ∈ xTb := tb 993 (by decide +kernel) rfl
theorem tw994 : Cond.instanceMethod ({ cls := "TextMorphModel", name := "clearBuffer", desc := "()I" } : MethodName) ∈ xTb := tb 994 (by decide +kernel) rfl
theorem tw995 : Cond.selects "TextMorphModel" ({ cls := "TextMorphModel", name := "clearBuffer", desc := "()I" } : MethodName) ({ cls := "TextMorphModel", name := "clearBuffer", desc := "()I" } : MethodName) ∈ xTb := tb 995 (by decide +kernel) rfl
theorem tw996 : Cond.code ({ cls := "TextMorphModel", name := "clearBuffer", desc := "()I" } : MethodName) prog_9_method_43_code (2 : Nat) (Option.some FieldType.int) ∈ xTb := tb 996 (by decide +kernel) rfl
theorem tw997 : Cond.methodLink "TextMorphLaw" (102 : Nat) ({ cls := "TextMorphModel", name := "firstError", desc := "()I" } : MethodName) ∈ xTb := tb 997 (by decide +kernel) rfl
theorem tw998 : Cond.instanceMethod ({ cls := "TextMorphModel", name := "firstError", desc := "()I" } : MethodName) ∈ xTb := tb 998 (by decide +kernel) rfl
theorem tw999 : Cond.selects "TextMorphModel" ({ cls := "TextMorphModel", name := "firstError", desc := "()I" } : MethodName) ({ cls := "TextMorphModel", name := "firstError", desc := "()I" } : MethodName) ∈ xTb := tb 999 (by decide +kernel) rfl
theorem tw1000 : Cond.code ({ cls := "TextMorphModel", name := "firstError", desc := "()I" } : MethodName) prog_9_method_45_code (1 : Nat) (Option.some FieldType.int) ∈ xTb := tb 1000 (by decide +kernel) rfl
theorem tw1001 : Cond.methodLink "TextMorphModel" (179 : Nat) ({ cls := "TextMorphModel", name := "readText", desc := "()I" } : MethodName) ∈ xTb := tb 1001 (by decide +kernel) rfl
theorem tw1003 : Cond.instanceMethod ({ cls := "TextMorphModel", name := "readText", desc := "()I" } : MethodName) ∈ xTb := tb 1003 (by decide +kernel) rfl
theorem tw1004 : Cond.code ({ cls := "TextMorphModel", name := "readText", desc := "()I" } : MethodName) prog_9_method_44_code (8 : Nat) (Option.some FieldType.int) ∈ xTb := tb 1004 (by decide +kernel) rfl
theorem tw1005 : Cond.methodLink "TextMorphLaw" (79 : Nat) ({ cls := "TextMorphModel", name := "load", desc := "(I)I" } : MethodName) ∈ xTb := tb 1005 (by decide +kernel) rfl
theorem tw1006 : Cond.instanceMethod ({ cls := "TextMorphModel", name := "load", desc := "(I)I" } : MethodName) ∈ xTb := tb 1006 (by decide +kernel) rfl
theorem tw1007 : Cond.selects "TextMorphModel" ({ cls := "TextMorphModel", name := "load", desc := "(I)I" } : MethodName) ({ cls := "TextMorphModel", name := "load", desc := "(I)I" } : MethodName) ∈ xTb := tb 1007 (by decide +kernel) rfl
theorem tw1008 : Cond.code ({ cls := "TextMorphModel", name := "load", desc := "(I)I" } : MethodName) prog_9_method_46_code (3 : Nat) (Option.some FieldType.int) ∈ xTb := tb 1008 (by decide +kernel) rfl
theorem tw1009 : Cond.methodLink "TextMorphLaw" (106 : Nat) ({ cls := "TextMorphModel", name := "letter", desc := "(III)I" } : MethodName) ∈ xTb := tb 1009 (by decide +kernel) rfl
theorem tw1010 : Cond.instanceMethod ({ cls := "TextMorphModel", name := "letter", desc := "(III)I" } : MethodName) ∈ xTb := tb 1010 (by decide +kernel) rfl
theorem tw1011 : Cond.selects "TextMorphModel" ({ cls := "TextMorphModel", name := "letter", desc := "(III)I" } : MethodName) ({ cls := "TextMorphModel", name := "letter", desc := "(III)I" } : MethodName) ∈ xTb := tb 1011 (by decide +kernel) rfl
theorem tw1012 : Cond.code ({ cls := "TextMorphModel", name := "letter", desc := "(III)I" } : MethodName) prog_9_method_48_code (5 : Nat) (Option.some FieldType.int) ∈ xTb := tb 1012 (by decide +kernel) rfl
theorem tw1013 : Cond.methodLink "TextMorphModel" (182 : Nat) ({ cls := "TextMorphModel", name := "letterNow", desc := "(III)I" } : MethodName) ∈ xTb := tb 1013 (by decide +kernel) rfl
theorem tw1015 : Cond.instanceMethod ({ cls := "TextMorphModel", name := "letterNow", desc := "(III)I" } : MethodName) ∈ xTb := tb 1015 (by decide +kernel) rfl
theorem tw1016 : Cond.code ({ cls := "TextMorphModel", name := "letterNow", desc := "(III)I" } : MethodName) prog_9_method_47_code (5 : Nat) (Option.some FieldType.int) ∈ xTb := tb 1016 (by decide +kernel) rfl
theorem tw1017 : Cond.methodLink "TextMorphLaw" (109 : Nat) ({ cls := "TextMorphModel", name := "way", desc := "(II)I" } : MethodName) ∈ xTb := tb 1017 (by decide +kernel) rfl
theorem tw1018 : Cond.instanceMethod ({ cls := "TextMorphModel", name := "way", desc := "(II)I" } : MethodName) ∈ xTb := tb 1018 (by decide +kernel) rfl
theorem tw1019 : Cond.selects "TextMorphModel" ({ cls := "TextMorphModel", name := "way", desc := "(II)I" } : MethodName) ({ cls := "TextMorphModel", name := "way", desc := "(II)I" } : MethodName) ∈ xTb := tb 1019 (by decide +kernel) rfl
theorem tw1020 : Cond.code ({ cls := "TextMorphModel", name := "way", desc := "(II)I" } : MethodName) prog_9_method_51_code (3 : Nat) (Option.some FieldType.int) ∈ xTb := tb 1020 (by decide +kernel) rfl
theorem tw1021 : Cond.methodLink "TextMorphModel" (189 : Nat) ({ cls := "TextMorphModel", name := "wayNow", desc := "(II)I" } : MethodName) ∈ xTb := tb 1021 (by decide +kernel) rfl
theorem tw1023 : Cond.instanceMethod ({ cls := "TextMorphModel", name := "wayNow", desc := "(II)I" } : MethodName) ∈ xTb := tb 1023 (by decide +kernel) rfl
theorem tw1024 : Cond.code ({ cls := "TextMorphModel", name := "wayNow", desc := "(II)I" } : MethodName) prog_9_method_50_code (3 : Nat) (Option.some FieldType.int) ∈ xTb := tb 1024 (by decide +kernel) rfl
theorem tw1025 : Cond.methodLink "TextMorphModel" (186 : Nat) ({ cls := "TextMorphModel", name := "steps", desc := "(I)I" } : MethodName) ∈ xTb := tb 1025 (by decide +kernel) rfl
theorem tw1027 : Cond.instanceMethod ({ cls := "TextMorphModel", name := "steps", desc := "(I)I" } : MethodName) ∈ xTb := tb 1027 (by decide +kernel) rfl
theorem tw1028 : Cond.code ({ cls := "TextMorphModel", name := "steps", desc := "(I)I" } : MethodName) prog_9_method_49_code (4 : Nat) (Option.some FieldType.int) ∈ xTb := tb 1028 (by decide +kernel) rfl
theorem tw1029 : Cond.methodLink "TextMorphModel" (134 : Nat) ({ cls := "TextMorphModel", name := "goneAt", desc := "(I)I" } : MethodName) ∈ xTb := tb 1029 (by decide +kernel) rfl
theorem tw1031 : Cond.instanceMethod ({ cls := "TextMorphModel", name := "goneAt", desc := "(I)I" } : MethodName) ∈ xTb := tb 1031 (by decide +kernel) rfl
theorem tw1032 : Cond.code ({ cls := "TextMorphModel", name := "goneAt", desc := "(I)I" } : MethodName) prog_9_method_27_code (4 : Nat) (Option.some FieldType.int) ∈ xTb := tb 1032 (by decide +kernel) rfl
theorem tw1033 : Cond.methodLink "TextMorphLaw" (112 : Nat) ({ cls := "TextMorphModel", name := "at", desc := "(III)I" } : MethodName) ∈ xTb := tb 1033 (by decide +kernel) rfl
theorem tw1034 : Cond.instanceMethod ({ cls := "TextMorphModel", name := "at", desc := "(III)I" } : MethodName) ∈ xTb := tb 1034 (by decide +kernel) rfl
theorem tw1035 : Cond.selects "TextMorphModel" ({ cls := "TextMorphModel", name := "at", desc := "(III)I" } : MethodName) ({ cls := "TextMorphModel", name := "at", desc := "(III)I" } : MethodName) ∈ xTb := tb 1035 (by decide +kernel) rfl
theorem tw1036 : Cond.code ({ cls := "TextMorphModel", name := "at", desc := "(III)I" } : MethodName) prog_9_method_53_code (4 : Nat) (Option.some FieldType.int) ∈ xTb := tb 1036 (by decide +kernel) rfl
theorem tw1037 : Cond.methodLink "TextMorphModel" (192 : Nat) ({ cls := "TextMorphModel", name := "isFrame", desc := "(I)Z" } : MethodName) ∈ xTb := tb 1037 (by decide +kernel) rfl
theorem tw1039 : Cond.instanceMethod ({ cls := "TextMorphModel", name := "isFrame", desc := "(I)Z" } : MethodName) ∈ xTb := tb 1039 (by decide +kernel) rfl
theorem tw1040 : Cond.code ({ cls := "TextMorphModel", name := "isFrame", desc := "(I)Z" } : MethodName) prog_9_method_52_code (2 : Nat) (Option.some FieldType.boolean) ∈ xTb := tb 1040 (by decide +kernel) rfl
theorem tw1041 : Cond.methodLink "TextMorphModel" (195 : Nat) ({ cls := "TextMorphModel", name := "shown", desc := "(II)I" } : MethodName) ∈ xTb := tb 1041 (by decide +kernel) rfl
theorem tw1043 : Cond.instanceMethod ({ cls := "TextMorphModel", name := "shown", desc := "(II)I" } : MethodName) ∈ xTb := tb 1043 (by decide +kernel) rfl
theorem tw1044 : Cond.code ({ cls := "TextMorphModel", name := "shown", desc := "(II)I" } : MethodName) prog_9_method_30_code (5 : Nat) (Option.some FieldType.int) ∈ xTb := tb 1044 (by decide +kernel) rfl
theorem tw1045 : Cond.methodLink "TextMorphModel" (137 : Nat) ({ cls := "TextMorphModel", name := "placeIn", desc := "(II)I" } : MethodName) ∈ xTb := tb 1045 (by decide +kernel) rfl
theorem tw1047 : Cond.instanceMethod ({ cls := "TextMorphModel", name := "placeIn", desc := "(II)I" } : MethodName) ∈ xTb := tb 1047 (by decide +kernel) rfl
theorem tw1048 : Cond.code ({ cls := "TextMorphModel", name := "placeIn", desc := "(II)I" } : MethodName) prog_9_method_28_code (4 : Nat) (Option.some FieldType.int) ∈ xTb := tb 1048 (by decide +kernel) rfl
theorem tw1049 : Cond.methodLink "TextMorphModel" (140 : Nat) ({ cls := "TextMorphModel", name := "shownOf", desc := "(II)I" } : MethodName) ∈ xTb := tb 1049 (by decide +kernel) rfl
theorem tw1051 : Cond.instanceMethod ({ cls := "TextMorphModel", name := "shownOf", desc := "(II)I" } : MethodName) ∈ xTb := tb 1051 (by decide +kernel) rfl
theorem tw1052 : Cond.code ({ cls := "TextMorphModel", name := "shownOf", desc := "(II)I" } : MethodName) prog_9_method_29_code (4 : Nat) (Option.some FieldType.int) ∈ xTb := tb 1052 (by decide +kernel) rfl
theorem tw1053 : Cond.methodLink "TextMorphLaw" (115 : Nat) ({ cls := "TextMorphModel", name := "place", desc := "(II)I" } : MethodName) ∈ xTb := tb 1053 (by decide +kernel) rfl
theorem tw1054 : Cond.instanceMethod ({ cls := "TextMorphModel", name := "place", desc := "(II)I" } : MethodName) ∈ xTb := tb 1054 (by decide +kernel) rfl
theorem tw1055 : Cond.selects "TextMorphModel" ({ cls := "TextMorphModel", name := "place", desc := "(II)I" } : MethodName) ({ cls := "TextMorphModel", name := "place", desc := "(II)I" } : MethodName) ∈ xTb := tb 1055 (by decide +kernel) rfl
theorem tw1056 : Cond.code ({ cls := "TextMorphModel", name := "place", desc := "(II)I" } : MethodName) prog_9_method_54_code (3 : Nat) (Option.some FieldType.int) ∈ xTb := tb 1056 (by decide +kernel) rfl
theorem tw1057 : Cond.methodLink "TextMorphLaw" (118 : Nat) ({ cls := "TextMorphModel", name := "frame", desc := "(II)I" } : MethodName) ∈ xTb := tb 1057 (by decide +kernel) rfl
theorem tw1058 : Cond.instanceMethod ({ cls := "TextMorphModel", name := "frame", desc := "(II)I" } : MethodName) ∈ xTb := tb 1058 (by decide +kernel) rfl
theorem tw1059 : Cond.selects "TextMorphModel" ({ cls := "TextMorphModel", name := "frame", desc := "(II)I" } : MethodName) ({ cls := "TextMorphModel", name := "frame", desc := "(II)I" } : MethodName) ∈ xTb := tb 1059 (by decide +kernel) rfl
theorem tw1060 : Cond.code ({ cls := "TextMorphModel", name := "frame", desc := "(II)I" } : MethodName) prog_9_method_57_code (3 : Nat) (Option.some FieldType.int) ∈ xTb := tb 1060 (by decide +kernel) rfl
theorem tw1061 : Cond.methodLink "TextMorphModel" (201 : Nat) ({ cls := "TextMorphModel", name := "frameNow", desc := "(II)I" } : MethodName) ∈ xTb := tb 1061 (by decide +kernel) rfl
theorem tw1063 : Cond.instanceMethod ({ cls := "TextMorphModel", name := "frameNow", desc := "(II)I" } : MethodName) ∈ xTb := tb 1063 (by decide +kernel) rfl
theorem tw1064 : Cond.code ({ cls := "TextMorphModel", name := "frameNow", desc := "(II)I" } : MethodName) prog_9_method_56_code (5 : Nat) (Option.some FieldType.int) ∈ xTb := tb 1064 (by decide +kernel) rfl
theorem tw1065 : Cond.methodLink "TextMorphModel" (198 : Nat) ({ cls := "TextMorphModel", name := "piecesIn", desc := "(II)I" } : MethodName) ∈ xTb := tb 1065 (by decide +kernel) rfl
theorem tw1067 : Cond.instanceMethod ({ cls := "TextMorphModel", name := "piecesIn", desc := "(II)I" } : MethodName) ∈ xTb := tb 1067 (by decide +kernel) rfl
theorem tw1068 : Cond.code ({ cls := "TextMorphModel", name := "piecesIn", desc := "(II)I" } : MethodName) prog_9_method_55_code (5 : Nat) (Option.some FieldType.int) ∈ xTb := tb 1068 (by decide +kernel) rfl
theorem tw1069 : Cond.methodLink "TextMorphLaw" (121 : Nat) ({ cls := "TextMorphModel", name := "count", desc := "(I)I" } : MethodName) ∈ xTb := tb 1069 (by decide +kernel) rfl
theorem tw1070 : Cond.instanceMethod ({ cls := "TextMorphModel", name := "count", desc := "(I)I" } : MethodName) ∈ xTb := tb 1070 (by decide +kernel) rfl
theorem tw1071 : Cond.selects "TextMorphModel" ({ cls := "TextMorphModel", name := "count", desc := "(I)I" } : MethodName) ({ cls := "TextMorphModel", name := "count", desc := "(I)I" } : MethodName) ∈ xTb := tb 1071 (by decide +kernel) rfl
theorem tw1072 : Cond.code ({ cls := "TextMorphModel", name := "count", desc := "(I)I" } : MethodName) prog_9_method_60_code (2 : Nat) (Option.some FieldType.int) ∈ xTb := tb 1072 (by decide +kernel) rfl
theorem tw1073 : Cond.methodLink "TextMorphModel" (207 : Nat) ({ cls := "TextMorphModel", name := "counted", desc := "(I)I" } : MethodName) ∈ xTb := tb 1073 (by decide +kernel) rfl
theorem tw1075 : Cond.instanceMethod ({ cls := "TextMorphModel", name := "counted", desc := "(I)I" } : MethodName) ∈ xTb := tb 1075 (by decide +kernel) rfl
theorem tw1076 : Cond.code ({ cls := "TextMorphModel", name := "counted", desc := "(I)I" } : MethodName) prog_9_method_59_code (2 : Nat) (Option.some FieldType.int) ∈ xTb := tb 1076 (by decide +kernel) rfl
theorem tw1077 : Cond.methodLink "TextMorphModel" (204 : Nat) ({ cls := "TextMorphModel", name := "sumOf", desc := "(I)I" } : MethodName) ∈ xTb := tb 1077 (by decide +kernel) rfl
theorem tw1079 : Cond.instanceMethod ({ cls := "TextMorphModel", name := "sumOf", desc := "(I)I" } : MethodName) ∈ xTb := tb 1079 (by decide +kernel) rfl
theorem tw1080 : Cond.code ({ cls := "TextMorphModel", name := "sumOf", desc := "(I)I" } : MethodName) prog_9_method_58_code (5 : Nat) (Option.some FieldType.int) ∈ xTb := tb 1080 (by decide +kernel) rfl
theorem tw1081 : Cond.methodLink "TextMorphLaw" (124 : Nat) ({ cls := "TextMorphModel", name := "setting", desc := "(I)I" } : MethodName) ∈ xTb := tb 1081 (by decide +kernel) rfl
theorem tw1082 : Cond.instanceMethod ({ cls := "TextMorphModel", name := "setting", desc := "(I)I" } : MethodName) ∈ xTb := tb 1082 (by decide +kernel) rfl
theorem tw1083 : Cond.selects "TextMorphModel" ({ cls := "TextMorphModel", name := "setting", desc := "(I)I" } : MethodName) ({ cls := "TextMorphModel", name := "setting", desc := "(I)I" } : MethodName) ∈ xTb := tb 1083 (by decide +kernel) rfl
theorem tw1084 : Cond.code ({ cls := "TextMorphModel", name := "setting", desc := "(I)I" } : MethodName) prog_9_method_61_code (2 : Nat) (Option.some FieldType.int) ∈ xTb := tb 1084 (by decide +kernel) rfl
theorem tw1085 : Cond.methodLink "TextMorphLaw" (127 : Nat) ({ cls := "TextMorphModel", name := "ifSet", desc := "(III)I" } : MethodName) ∈ xTb := tb 1085 (by decide +kernel) rfl
theorem tw1086 : Cond.instanceMethod ({ cls := "TextMorphModel", name := "ifSet", desc := "(III)I" } : MethodName) ∈ xTb := tb 1086 (by decide +kernel) rfl
theorem tw1087 : Cond.selects "TextMorphModel" ({ cls := "TextMorphModel", name := "ifSet", desc := "(III)I" } : MethodName) ({ cls := "TextMorphModel", name := "ifSet", desc := "(III)I" } : MethodName) ∈ xTb := tb 1087 (by decide +kernel) rfl
theorem tw1088 : Cond.code ({ cls := "TextMorphModel", name := "ifSet", desc := "(III)I" } : MethodName) prog_9_method_63_code (4 : Nat) (Option.some FieldType.int) ∈ xTb := tb 1088 (by decide +kernel) rfl
theorem tw1089 : Cond.methodLink "TextMorphModel" (210 : Nat) ({ cls := "TextMorphModel", name := "ifNow", desc := "(III)I" } : MethodName) ∈ xTb := tb 1089 (by decide +kernel) rfl
theorem tw1091 : Cond.instanceMethod ({ cls := "TextMorphModel", name := "ifNow", desc := "(III)I" } : MethodName) ∈ xTb := tb 1091 (by decide +kernel) rfl
theorem tw1092 : Cond.code ({ cls := "TextMorphModel", name := "ifNow", desc := "(III)I" } : MethodName) prog_9_method_62_code (6 : Nat) (Option.some FieldType.int) ∈ xTb := tb 1092 (by decide +kernel) rfl
theorem tw1093 : Cond.methodLink "TextMorphLaw" (131 : Nat) ({ cls := "TextMorphModel", name := "best", desc := "()I" } : MethodName) ∈ xTb := tb 1093 (by decide +kernel) rfl
theorem tw1094 : Cond.instanceMethod ({ cls := "TextMorphModel", name := "best", desc := "()I" } : MethodName) ∈ xTb := tb 1094 (by decide +kernel) rfl
theorem tw1095 : Cond.selects "TextMorphModel" ({ cls := "TextMorphModel", name := "best", desc := "()I" } : MethodName) ({ cls := "TextMorphModel", name := "best", desc := "()I" } : MethodName) ∈ xTb := tb 1095 (by decide +kernel) rfl
theorem tw1096 : Cond.code ({ cls := "TextMorphModel", name := "best", desc := "()I" } : MethodName) prog_9_method_65_code (1 : Nat) (Option.some FieldType.int) ∈ xTb := tb 1096 (by decide +kernel) rfl
theorem tw1097 : Cond.methodLink "TextMorphModel" (213 : Nat) ({ cls := "TextMorphModel", name := "bestNow", desc := "()I" } : MethodName) ∈ xTb := tb 1097 (by decide +kernel) rfl
theorem tw1099 : Cond.instanceMethod ({ cls := "TextMorphModel", name := "bestNow", desc := "()I" } : MethodName) ∈ xTb := tb 1099 (by decide +kernel) rfl
theorem tw1100 : Cond.code ({ cls := "TextMorphModel", name := "bestNow", desc := "()I" } : MethodName) prog_9_method_64_code (8 : Nat) (Option.some FieldType.int) ∈ xTb := tb 1100 (by decide +kernel) rfl
theorem tw1101 : Cond.methodLink "TextMorphLaw" (136 : Nat) ({ cls := "TextMorphModel", name := "likeness", desc := "()D" } : MethodName) ∈ xTb := tb 1101 (by decide +kernel) rfl
theorem tw1102 : Cond.instanceMethod ({ cls := "TextMorphModel", name := "likeness", desc := "()D" } : MethodName) ∈ xTb := tb 1102 (by decide +kernel) rfl
theorem tw1103 : Cond.selects "TextMorphModel" ({ cls := "TextMorphModel", name := "likeness", desc := "()D" } : MethodName) ({ cls := "TextMorphModel", name := "likeness", desc := "()D" } : MethodName) ∈ xTb := tb 1103 (by decide +kernel) rfl
theorem tw1104 : Cond.code ({ cls := "TextMorphModel", name := "likeness", desc := "()D" } : MethodName) prog_9_method_67_code (1 : Nat) (Option.some FieldType.double) ∈ xTb := tb 1104 (by decide +kernel) rfl
theorem tw1105 : Cond.methodLink "TextMorphModel" (218 : Nat) ({ cls := "TextMorphModel", name := "likenessNow", desc := "()D" } : MethodName) ∈ xTb := tb 1105 (by decide +kernel) rfl
theorem tw1107 : Cond.instanceMethod ({ cls := "TextMorphModel", name := "likenessNow", desc := "()D" } : MethodName) ∈ xTb := tb 1107 (by decide +kernel) rfl
theorem tw1108 : Cond.code ({ cls := "TextMorphModel", name := "likenessNow", desc := "()D" } : MethodName) prog_9_method_66_code (2 : Nat) (Option.some FieldType.double) ∈ xTb := tb 1108 (by decide +kernel) rfl
theorem tw1109 : Cond.constantDouble "TextMorphModel" (216 : Nat) (4611686018427387904 : UInt64) ∈ xTb := tb 1109 (by decide +kernel) rfl
theorem tw1110 : Cond.methodLink "TextMorphLaw" (141 : Nat) ({ cls := "TextMorphModel", name := "digest", desc := "()J" } : MethodName) ∈ xTb := tb 1110 (by decide +kernel) rfl
theorem tw1111 : Cond.instanceMethod ({ cls := "TextMorphModel", name := "digest", desc := "()J" } : MethodName) ∈ xTb := tb 1111 (by decide +kernel) rfl
theorem tw1112 : Cond.selects "TextMorphModel" ({ cls := "TextMorphModel", name := "digest", desc := "()J" } : MethodName) ({ cls := "TextMorphModel", name := "digest", desc := "()J" } : MethodName) ∈ xTb := tb 1112 (by decide +kernel) rfl
theorem tw1113 : Cond.code ({ cls := "TextMorphModel", name := "digest", desc := "()J" } : MethodName) prog_9_method_70_code (2 : Nat) (Option.some FieldType.long) ∈ xTb := tb 1113 (by decide +kernel) rfl
theorem tw1114 : Cond.constantLong "TextMorphModel" (232 : Nat) (2111 : Int64) ∈ xTb := tb 1114 (by decide +kernel) rfl
theorem tw1115 : Cond.methodLink "TextMorphModel" (228 : Nat) ({ cls := "TextMorphModel", name := "mix", desc := "(J)V" } : MethodName) ∈ xTb := tb 1115 (by decide +kernel) rfl
theorem tw1117 : Cond.instanceMethod ({ cls := "TextMorphModel", name := "mix", desc := "(J)V" } : MethodName) ∈ xTb := tb 1117 (by decide +kernel) rfl
theorem tw1118 : Cond.code ({ cls := "TextMorphModel", name := "mix", desc := "(J)V" } : MethodName) prog_9_method_68_code (3 : Nat) (Option.none : Option FieldType) ∈ xTb := tb 1118 (by decide +kernel) rfl
theorem tw1119 : Cond.constantLong "TextMorphModel" (222 : Nat) (31 : Int64) ∈ xTb := tb 1119 (by decide +kernel) rfl
theorem tw1120 : Cond.methodLink "TextMorphModel" (234 : Nat) ({ cls := "TextMorphModel", name := "mixFrames", desc := "()V" } : MethodName) ∈ xTb := tb 1120 (by decide +kernel) rfl
theorem tw1122 : Cond.instanceMethod ({ cls := "TextMorphModel", name := "mixFrames", desc := "()V" } : MethodName) ∈ xTb := tb 1122 (by decide +kernel) rfl
theorem tw1123 : Cond.code ({ cls := "TextMorphModel", name := "mixFrames", desc := "()V" } : MethodName) prog_9_method_69_code (4 : Nat) (Option.none : Option FieldType) ∈ xTb := tb 1123 (by decide +kernel) rfl
theorem tw1124 : Cond.methodLink "TextMorphModel" (237 : Nat) ({ cls := "java/lang/Double", name := "doubleToLongBits", desc := "(D)J" } : MethodName) ∈ xTb := tb 1124 (by decide +kernel) rfl
theorem tw1125 : Cond.static ({ cls := "java/lang/Double", name := "doubleToLongBits", desc := "(D)J" } : MethodName) ∈ xTb := tb 1125 (by decide +kernel) rfl
theorem tw1126 : Cond.code ({ cls := "java/lang/Double", name := "doubleToLongBits", desc := "(D)J" } : MethodName) prog_10_method_23_code (2 : Nat) (Option.some FieldType.long) ∈ xTb := tb 1126 (by decide +kernel) rfl
theorem tw1127 : Cond.methodLink "java/lang/Double" (122 : Nat) ({ cls := "java/lang/Double", name := "isNaN", desc := "(D)Z" } : MethodName) ∈ xTb := tb 1127 (by decide +kernel) rfl
theorem tw1128 : Cond.static ({ cls := "java/lang/Double", name := "isNaN", desc := "(D)Z" } : MethodName) ∈ xTb := tb 1128 (by decide +kernel) rfl
theorem tw1129 : Cond.code ({ cls := "java/lang/Double", name := "isNaN", desc := "(D)Z" } : MethodName) prog_10_method_6_code (2 : Nat) (Option.some FieldType.boolean) ∈ xTb := tb 1129 (by decide +kernel) rfl
theorem tw1130 : Cond.methodLink "java/lang/Double" (134 : Nat) ({ cls := "java/lang/Double", name := "doubleToRawLongBits", desc := "(D)J" } : MethodName) ∈ xTb := tb 1130 (by decide +kernel) rfl
theorem tw1131 : Cond.static ({ cls := "java/lang/Double", name := "doubleToRawLongBits", desc := "(D)J" } : MethodName) ∈ xTb := tb 1131 (by decide +kernel) rfl
theorem tw1132 : Cond.native ({ cls := "java/lang/Double", name := "doubleToRawLongBits", desc := "(D)J" } : MethodName) ∈ xTb := tb 1132 (by decide +kernel) rfl
theorem tw1133 : Cond.constantLong "java/lang/Double" (137 : Nat) (9221120237041090560 : Int64) ∈ xTb := tb 1133 (by decide +kernel) rfl
theorem tw1134 : Cond.arrayClass FieldType.long ∈ xTb := tb 1134 (by decide +kernel) rfl
