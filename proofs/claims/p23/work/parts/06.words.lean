theorem tw0 : Cond.initialized "TextMorphLaw" ∈ xTb := tb 0 (by decide +kernel) rfl
theorem tw1 : Cond.initialized "TextMorph" ∈ xTb := tb 1 (by decide +kernel) rfl
theorem tw2 : Cond.initialized "TextMorph$State" ∈ xTb := tb 2 (by decide +kernel) rfl
theorem tw3 : Cond.initialized "TextMorph$Text" ∈ xTb := tb 3 (by decide +kernel) rfl
theorem tw4 : Cond.initialized "java/util/Arrays" ∈ xTb := tb 4 (by decide +kernel) rfl
theorem tw5 : Cond.initialized "java/lang/System" ∈ xTb := tb 5 (by decide +kernel) rfl
theorem tw6 : Cond.initialized "TextMorph$Morph" ∈ xTb := tb 6 (by decide +kernel) rfl
theorem tw7 : Cond.initialized "TextMorph$Pairs" ∈ xTb := tb 7 (by decide +kernel) rfl
theorem tw8 : Cond.initialized "TextMorph$Motion" ∈ xTb := tb 8 (by decide +kernel) rfl
theorem tw9 : Cond.initialized "TextMorph$Buffer" ∈ xTb := tb 9 (by decide +kernel) rfl
theorem tw10 : Cond.initialized "java/lang/Math" ∈ xTb := tb 10 (by decide +kernel) rfl
theorem tw17 : Cond.classLink "TextMorphLaw" (39 : Nat) "TextMorph" ∈ xTb := tb 17 (by decide +kernel) rfl
theorem tw18 : Cond.instantiable "TextMorph" (8 : Nat) ∈ xTb := tb 18 (by decide +kernel) rfl
theorem tw19 : Cond.methodLink "TextMorphLaw" (127 : Nat) ({ cls := "TextMorph", name := "<init>", desc := "()V" } : MethodName) ∈ xTb := tb 19 (by decide +kernel) rfl
theorem tw20 : Cond.instanceMethod ({ cls := "TextMorph", name := "<init>", desc := "()V" } : MethodName) ∈ xTb := tb 20 (by decide +kernel) rfl
theorem tw21 : Cond.code ({ cls := "TextMorph", name := "<init>", desc := "()V" } : MethodName) prog_1_method_1_code (2 : Nat) (Option.none : Option FieldType) ∈ xTb := tb 21 (by decide +kernel) rfl
theorem tw22 : Cond.methodLink "TextMorph" (3 : Nat) ({ cls := "java/lang/Object", name := "<init>", desc := "()V" } : MethodName) ∈ xTb := tb 22 (by decide +kernel) rfl
theorem tw23 : Cond.instanceMethod ({ cls := "java/lang/Object", name := "<init>", desc := "()V" } : MethodName) ∈ xTb := tb 23 (by decide +kernel) rfl
theorem tw24 : Cond.code ({ cls := "java/lang/Object", name := "<init>", desc := "()V" } : MethodName) object_method_1_code (1 : Nat) (Option.none : Option FieldType) ∈ xTb := tb 24 (by decide +kernel) rfl
theorem tw25 : Cond.classLink "TextMorph" (9 : Nat) "TextMorph$State" ∈ xTb := tb 25 (by decide +kernel) rfl
theorem tw26 : Cond.instantiable "TextMorph$State" (3 : Nat) ∈ xTb := tb 26 (by decide +kernel) rfl
theorem tw27 : Cond.methodLink "TextMorph" (11 : Nat) ({ cls := "TextMorph$State", name := "<init>", desc := "()V" } : MethodName) ∈ xTb := tb 27 (by decide +kernel) rfl
theorem tw28 : Cond.instanceMethod ({ cls := "TextMorph$State", name := "<init>", desc := "()V" } : MethodName) ∈ xTb := tb 28 (by decide +kernel) rfl
theorem tw29 : Cond.code ({ cls := "TextMorph$State", name := "<init>", desc := "()V" } : MethodName) prog_6_method_1_code (1 : Nat) (Option.none : Option FieldType) ∈ xTb := tb 29 (by decide +kernel) rfl
theorem tw30 : Cond.methodLink "TextMorph$State" (3 : Nat) ({ cls := "java/lang/Object", name := "<init>", desc := "()V" } : MethodName) ∈ xTb := tb 30 (by decide +kernel) rfl
theorem tw31 : Cond.classLink "TextMorph$State" (15 : Nat) "TextMorph$Text" ∈ xTb := tb 31 (by decide +kernel) rfl
theorem tw32 : Cond.instantiable "TextMorph$Text" (3 : Nat) ∈ xTb := tb 32 (by decide +kernel) rfl
theorem tw33 : Cond.methodLink "TextMorph$State" (17 : Nat) ({ cls := "TextMorph$Text", name := "<init>", desc := "()V" } : MethodName) ∈ xTb := tb 33 (by decide +kernel) rfl
theorem tw34 : Cond.instanceMethod ({ cls := "TextMorph$Text", name := "<init>", desc := "()V" } : MethodName) ∈ xTb := tb 34 (by decide +kernel) rfl
theorem tw35 : Cond.code ({ cls := "TextMorph$Text", name := "<init>", desc := "()V" } : MethodName) prog_7_method_1_code (1 : Nat) (Option.none : Option FieldType) ∈ xTb := tb 35 (by decide +kernel) rfl
theorem tw36 : Cond.methodLink "TextMorph$Text" (3 : Nat) ({ cls := "java/lang/Object", name := "<init>", desc := "()V" } : MethodName) ∈ xTb := tb 36 (by decide +kernel) rfl
theorem tw37 : Cond.methodLink "TextMorph$Text" (22 : Nat) ({ cls := "java/util/Arrays", name := "fill", desc := "([II)V" } : MethodName) ∈ xTb := tb 37 (by decide +kernel) rfl
theorem tw38 : Cond.static ({ cls := "java/util/Arrays", name := "fill", desc := "([II)V" } : MethodName) ∈ xTb := tb 38 (by decide +kernel) rfl
theorem tw39 : Cond.code ({ cls := "java/util/Arrays", name := "fill", desc := "([II)V" } : MethodName) prog_19_method_103_code (4 : Nat) (Option.none : Option FieldType) ∈ xTb := tb 39 (by decide +kernel) rfl
theorem tw40 : Cond.fieldLink "TextMorph$Text" (9 : Nat) "TextMorph$Text" "codes" "[I" ∈ xTb := tb 40 (by decide +kernel) rfl
theorem tw41 : Cond.fieldLink "TextMorph" (120 : Nat) "TextMorph$Text" "codes" "[I" ∈ xTb := tb 41 (by decide +kernel) rfl
theorem tw42 : Cond.fieldLink "TextMorph$Text" (15 : Nat) "TextMorph$Text" "cells" "[I" ∈ xTb := tb 42 (by decide +kernel) rfl
theorem tw43 : Cond.fieldLink "TextMorph$Motion" (95 : Nat) "TextMorph$Text" "cells" "[I" ∈ xTb := tb 43 (by decide +kernel) rfl
theorem tw44 : Cond.fieldLink "TextMorph$Morph" (177 : Nat) "TextMorph$Text" "cells" "[I" ∈ xTb := tb 44 (by decide +kernel) rfl
theorem tw45 : Cond.fieldLink "TextMorph$Text" (18 : Nat) "TextMorph$Text" "letters" "I" ∈ xTb := tb 45 (by decide +kernel) rfl
theorem tw46 : Cond.fieldLink "TextMorph$Morph" (69 : Nat) "TextMorph$Text" "letters" "I" ∈ xTb := tb 46 (by decide +kernel) rfl
theorem tw47 : Cond.fieldLink "TextMorph$Motion" (72 : Nat) "TextMorph$Text" "letters" "I" ∈ xTb := tb 47 (by decide +kernel) rfl
theorem tw48 : Cond.fieldLink "TextMorph$Pairs" (73 : Nat) "TextMorph$Text" "letters" "I" ∈ xTb := tb 48 (by decide +kernel) rfl
theorem tw49 : Cond.fieldLink "TextMorph" (57 : Nat) "TextMorph$Text" "letters" "I" ∈ xTb := tb 49 (by decide +kernel) rfl
theorem tw57 : Cond.arrayClass FieldType.int ∈ xTb := tb 57 (by decide +kernel) rfl
theorem tw60 : Cond.methodLink "TextMorph$State" (28 : Nat) ({ cls := "java/lang/System", name := "arraycopy", desc := "(Ljava/lang/Object;ILjava/lang/Object;II)V" } : MethodName) ∈ xTb := tb 60 (by decide +kernel) rfl
theorem tw61 : Cond.static ({ cls := "java/lang/System", name := "arraycopy", desc := "(Ljava/lang/Object;ILjava/lang/Object;II)V" } : MethodName) ∈ xTb := tb 61 (by decide +kernel) rfl
theorem tw62 : Cond.native ({ cls := "java/lang/System", name := "arraycopy", desc := "(Ljava/lang/Object;ILjava/lang/Object;II)V" } : MethodName) ∈ xTb := tb 62 (by decide +kernel) rfl
theorem tw63 : Cond.fieldLink "TextMorph$State" (9 : Nat) "TextMorph$State" "settings" "[I" ∈ xTb := tb 63 (by decide +kernel) rfl
theorem tw64 : Cond.fieldLink "TextMorph$Morph" (57 : Nat) "TextMorph$State" "settings" "[I" ∈ xTb := tb 64 (by decide +kernel) rfl
theorem tw65 : Cond.fieldLink "TextMorph$Pairs" (40 : Nat) "TextMorph$State" "settings" "[I" ∈ xTb := tb 65 (by decide +kernel) rfl
theorem tw66 : Cond.fieldLink "TextMorph" (85 : Nat) "TextMorph$State" "settings" "[I" ∈ xTb := tb 66 (by decide +kernel) rfl
theorem tw67 : Cond.fieldLink "TextMorph$Motion" (108 : Nat) "TextMorph$State" "settings" "[I" ∈ xTb := tb 67 (by decide +kernel) rfl
theorem tw68 : Cond.fieldLink "TextMorph$State" (18 : Nat) "TextMorph$State" "first" "LTextMorph$Text;" ∈ xTb := tb 68 (by decide +kernel) rfl
theorem tw69 : Cond.fieldLink "TextMorph$State" (22 : Nat) "TextMorph$State" "second" "LTextMorph$Text;" ∈ xTb := tb 69 (by decide +kernel) rfl
theorem tw77 : Cond.classLink "TextMorph" (16 : Nat) "TextMorph$Morph" ∈ xTb := tb 77 (by decide +kernel) rfl
theorem tw78 : Cond.instantiable "TextMorph$Morph" (9 : Nat) ∈ xTb := tb 78 (by decide +kernel) rfl
theorem tw79 : Cond.methodLink "TextMorph" (18 : Nat) ({ cls := "TextMorph$Morph", name := "<init>", desc := "(LTextMorph$State;)V" } : MethodName) ∈ xTb := tb 79 (by decide +kernel) rfl
theorem tw80 : Cond.instanceMethod ({ cls := "TextMorph$Morph", name := "<init>", desc := "(LTextMorph$State;)V" } : MethodName) ∈ xTb := tb 80 (by decide +kernel) rfl
theorem tw81 : Cond.code ({ cls := "TextMorph$Morph", name := "<init>", desc := "(LTextMorph$State;)V" } : MethodName) prog_3_method_1_code (2 : Nat) (Option.none : Option FieldType) ∈ xTb := tb 81 (by decide +kernel) rfl
theorem tw82 : Cond.methodLink "TextMorph$Morph" (3 : Nat) ({ cls := "java/lang/Object", name := "<init>", desc := "()V" } : MethodName) ∈ xTb := tb 82 (by decide +kernel) rfl
theorem tw83 : Cond.classLink "TextMorph$Morph" (35 : Nat) "TextMorph$Pairs" ∈ xTb := tb 83 (by decide +kernel) rfl
theorem tw84 : Cond.instantiable "TextMorph$Pairs" (7 : Nat) ∈ xTb := tb 84 (by decide +kernel) rfl
theorem tw85 : Cond.methodLink "TextMorph$Morph" (37 : Nat) ({ cls := "TextMorph$Pairs", name := "<init>", desc := "(LTextMorph$State;)V" } : MethodName) ∈ xTb := tb 85 (by decide +kernel) rfl
theorem tw86 : Cond.instanceMethod ({ cls := "TextMorph$Pairs", name := "<init>", desc := "(LTextMorph$State;)V" } : MethodName) ∈ xTb := tb 86 (by decide +kernel) rfl
theorem tw87 : Cond.code ({ cls := "TextMorph$Pairs", name := "<init>", desc := "(LTextMorph$State;)V" } : MethodName) prog_5_method_1_code (2 : Nat) (Option.none : Option FieldType) ∈ xTb := tb 87 (by decide +kernel) rfl
theorem tw88 : Cond.methodLink "TextMorph$Pairs" (3 : Nat) ({ cls := "java/lang/Object", name := "<init>", desc := "()V" } : MethodName) ∈ xTb := tb 88 (by decide +kernel) rfl
theorem tw89 : Cond.fieldLink "TextMorph$Pairs" (9 : Nat) "TextMorph$Pairs" "partnerOfFirst" "[I" ∈ xTb := tb 89 (by decide +kernel) rfl
theorem tw90 : Cond.fieldLink "TextMorph$Morph" (95 : Nat) "TextMorph$Pairs" "partnerOfFirst" "[I" ∈ xTb := tb 90 (by decide +kernel) rfl
theorem tw91 : Cond.fieldLink "TextMorph$Motion" (96 : Nat) "TextMorph$Pairs" "partnerOfFirst" "[I" ∈ xTb := tb 91 (by decide +kernel) rfl
theorem tw92 : Cond.fieldLink "TextMorph$Pairs" (15 : Nat) "TextMorph$Pairs" "partnerOfSecond" "[I" ∈ xTb := tb 92 (by decide +kernel) rfl
theorem tw93 : Cond.fieldLink "TextMorph$Morph" (98 : Nat) "TextMorph$Pairs" "partnerOfSecond" "[I" ∈ xTb := tb 93 (by decide +kernel) rfl
theorem tw94 : Cond.fieldLink "TextMorph$Pairs" (18 : Nat) "TextMorph$Pairs" "kindOfFirst" "[I" ∈ xTb := tb 94 (by decide +kernel) rfl
theorem tw95 : Cond.fieldLink "TextMorph$Morph" (74 : Nat) "TextMorph$Pairs" "kindOfFirst" "[I" ∈ xTb := tb 95 (by decide +kernel) rfl
theorem tw96 : Cond.fieldLink "TextMorph$Pairs" (21 : Nat) "TextMorph$Pairs" "kindOfSecond" "[I" ∈ xTb := tb 96 (by decide +kernel) rfl
theorem tw97 : Cond.fieldLink "TextMorph$Morph" (80 : Nat) "TextMorph$Pairs" "kindOfSecond" "[I" ∈ xTb := tb 97 (by decide +kernel) rfl
theorem tw98 : Cond.fieldLink "TextMorph$Pairs" (24 : Nat) "TextMorph$Pairs" "ofKind" "[I" ∈ xTb := tb 98 (by decide +kernel) rfl
theorem tw99 : Cond.fieldLink "TextMorph$Motion" (61 : Nat) "TextMorph$Pairs" "ofKind" "[I" ∈ xTb := tb 99 (by decide +kernel) rfl
theorem tw100 : Cond.fieldLink "TextMorph$Morph" (62 : Nat) "TextMorph$Pairs" "ofKind" "[I" ∈ xTb := tb 100 (by decide +kernel) rfl
theorem tw101 : Cond.fieldLink "TextMorph" (212 : Nat) "TextMorph$Pairs" "ofKind" "[I" ∈ xTb := tb 101 (by decide +kernel) rfl
theorem tw102 : Cond.fieldLink "TextMorph$Pairs" (30 : Nat) "TextMorph$Pairs" "state" "LTextMorph$State;" ∈ xTb := tb 102 (by decide +kernel) rfl
theorem tw103 : Cond.fieldLink "TextMorph$Pairs" (27 : Nat) "TextMorph$Pairs" "longest" "[I" ∈ xTb := tb 103 (by decide +kernel) rfl
theorem tw119 : Cond.classLink "TextMorph$Morph" (44 : Nat) "TextMorph$Motion" ∈ xTb := tb 119 (by decide +kernel) rfl
theorem tw120 : Cond.instantiable "TextMorph$Motion" (13 : Nat) ∈ xTb := tb 120 (by decide +kernel) rfl
theorem tw121 : Cond.methodLink "TextMorph$Morph" (46 : Nat) ({ cls := "TextMorph$Motion", name := "<init>", desc := "(LTextMorph$State;LTextMorph$Pairs;)V" } : MethodName) ∈ xTb := tb 121 (by decide +kernel) rfl
theorem tw122 : Cond.instanceMethod ({ cls := "TextMorph$Motion", name := "<init>", desc := "(LTextMorph$State;LTextMorph$Pairs;)V" } : MethodName) ∈ xTb := tb 122 (by decide +kernel) rfl
theorem tw123 : Cond.code ({ cls := "TextMorph$Motion", name := "<init>", desc := "(LTextMorph$State;LTextMorph$Pairs;)V" } : MethodName) prog_4_method_1_code (3 : Nat) (Option.none : Option FieldType) ∈ xTb := tb 123 (by decide +kernel) rfl
theorem tw124 : Cond.methodLink "TextMorph$Motion" (3 : Nat) ({ cls := "java/lang/Object", name := "<init>", desc := "()V" } : MethodName) ∈ xTb := tb 124 (by decide +kernel) rfl
theorem tw125 : Cond.fieldLink "TextMorph$Motion" (9 : Nat) "TextMorph$Motion" "goals" "[I" ∈ xTb := tb 125 (by decide +kernel) rfl
theorem tw126 : Cond.fieldLink "TextMorph$Motion" (15 : Nat) "TextMorph$Motion" "heldFrames" "[I" ∈ xTb := tb 126 (by decide +kernel) rfl
theorem tw127 : Cond.fieldLink "TextMorph$Morph" (118 : Nat) "TextMorph$Motion" "heldFrames" "[I" ∈ xTb := tb 127 (by decide +kernel) rfl
theorem tw128 : Cond.fieldLink "TextMorph$Motion" (18 : Nat) "TextMorph$Motion" "arrivals" "[I" ∈ xTb := tb 128 (by decide +kernel) rfl
theorem tw129 : Cond.fieldLink "TextMorph$Morph" (125 : Nat) "TextMorph$Motion" "arrivals" "[I" ∈ xTb := tb 129 (by decide +kernel) rfl
theorem tw130 : Cond.fieldLink "TextMorph$Motion" (21 : Nat) "TextMorph$Motion" "frames" "I" ∈ xTb := tb 130 (by decide +kernel) rfl
theorem tw131 : Cond.fieldLink "TextMorph$Morph" (77 : Nat) "TextMorph$Motion" "frames" "I" ∈ xTb := tb 131 (by decide +kernel) rfl
theorem tw132 : Cond.fieldLink "TextMorph$Motion" (25 : Nat) "TextMorph$Motion" "heldInAll" "I" ∈ xTb := tb 132 (by decide +kernel) rfl
theorem tw133 : Cond.fieldLink "TextMorph$Morph" (92 : Nat) "TextMorph$Motion" "heldInAll" "I" ∈ xTb := tb 133 (by decide +kernel) rfl
theorem tw134 : Cond.fieldLink "TextMorph$Motion" (46 : Nat) "TextMorph$Motion" "state" "LTextMorph$State;" ∈ xTb := tb 134 (by decide +kernel) rfl
theorem tw135 : Cond.fieldLink "TextMorph$Motion" (50 : Nat) "TextMorph$Motion" "pairs" "LTextMorph$Pairs;" ∈ xTb := tb 135 (by decide +kernel) rfl
theorem tw136 : Cond.fieldLink "TextMorph$Motion" (28 : Nat) "TextMorph$Motion" "cells" "[I" ∈ xTb := tb 136 (by decide +kernel) rfl
theorem tw137 : Cond.fieldLink "TextMorph$Motion" (31 : Nat) "TextMorph$Motion" "heldLately" "[I" ∈ xTb := tb 137 (by decide +kernel) rfl
theorem tw138 : Cond.fieldLink "TextMorph$Motion" (34 : Nat) "TextMorph$Motion" "piecesIn" "[I" ∈ xTb := tb 138 (by decide +kernel) rfl
theorem tw139 : Cond.fieldLink "TextMorph$Motion" (37 : Nat) "TextMorph$Motion" "heldPieces" "[I" ∈ xTb := tb 139 (by decide +kernel) rfl
theorem tw140 : Cond.fieldLink "TextMorph$Motion" (40 : Nat) "TextMorph$Motion" "track" "[I" ∈ xTb := tb 140 (by decide +kernel) rfl
theorem tw141 : Cond.fieldLink "TextMorph$Motion" (43 : Nat) "TextMorph$Motion" "away" "I" ∈ xTb := tb 141 (by decide +kernel) rfl
theorem tw169 : Cond.fieldLink "TextMorph$Morph" (40 : Nat) "TextMorph$Morph" "pairs" "LTextMorph$Pairs;" ∈ xTb := tb 169 (by decide +kernel) rfl
theorem tw170 : Cond.fieldLink "TextMorph" (208 : Nat) "TextMorph$Morph" "pairs" "LTextMorph$Pairs;" ∈ xTb := tb 170 (by decide +kernel) rfl
theorem tw171 : Cond.fieldLink "TextMorph$Morph" (49 : Nat) "TextMorph$Morph" "motion" "LTextMorph$Motion;" ∈ xTb := tb 171 (by decide +kernel) rfl
theorem tw172 : Cond.fieldLink "TextMorph$Morph" (31 : Nat) "TextMorph$Morph" "state" "LTextMorph$State;" ∈ xTb := tb 172 (by decide +kernel) rfl
theorem tw173 : Cond.fieldLink "TextMorph$Morph" (9 : Nat) "TextMorph$Morph" "goneFrom" "[I" ∈ xTb := tb 173 (by decide +kernel) rfl
theorem tw174 : Cond.fieldLink "TextMorph$Morph" (15 : Nat) "TextMorph$Morph" "thereFrom" "[I" ∈ xTb := tb 174 (by decide +kernel) rfl
theorem tw175 : Cond.fieldLink "TextMorph$Morph" (18 : Nat) "TextMorph$Morph" "shown" "[I" ∈ xTb := tb 175 (by decide +kernel) rfl
theorem tw176 : Cond.fieldLink "TextMorph$Morph" (21 : Nat) "TextMorph$Morph" "shownBefore" "[I" ∈ xTb := tb 176 (by decide +kernel) rfl
theorem tw177 : Cond.fieldLink "TextMorph$Morph" (24 : Nat) "TextMorph$Morph" "piecesIn" "[I" ∈ xTb := tb 177 (by decide +kernel) rfl
theorem tw178 : Cond.fieldLink "TextMorph$Morph" (27 : Nat) "TextMorph$Morph" "stillFrames" "I" ∈ xTb := tb 178 (by decide +kernel) rfl
theorem tw199 : Cond.classLink "TextMorph" (35 : Nat) "TextMorph$Buffer" ∈ xTb := tb 199 (by decide +kernel) rfl
theorem tw200 : Cond.instantiable "TextMorph$Buffer" (3 : Nat) ∈ xTb := tb 200 (by decide +kernel) rfl
theorem tw201 : Cond.methodLink "TextMorph" (37 : Nat) ({ cls := "TextMorph$Buffer", name := "<init>", desc := "()V" } : MethodName) ∈ xTb := tb 201 (by decide +kernel) rfl
theorem tw202 : Cond.instanceMethod ({ cls := "TextMorph$Buffer", name := "<init>", desc := "()V" } : MethodName) ∈ xTb := tb 202 (by decide +kernel) rfl
theorem tw203 : Cond.code ({ cls := "TextMorph$Buffer", name := "<init>", desc := "()V" } : MethodName) prog_2_method_1_code (1 : Nat) (Option.none : Option FieldType) ∈ xTb := tb 203 (by decide +kernel) rfl
theorem tw204 : Cond.methodLink "TextMorph$Buffer" (3 : Nat) ({ cls := "java/lang/Object", name := "<init>", desc := "()V" } : MethodName) ∈ xTb := tb 204 (by decide +kernel) rfl
theorem tw205 : Cond.fieldLink "TextMorph$Buffer" (9 : Nat) "TextMorph$Buffer" "signs" "[I" ∈ xTb := tb 205 (by decide +kernel) rfl
theorem tw206 : Cond.fieldLink "TextMorph" (150 : Nat) "TextMorph$Buffer" "signs" "[I" ∈ xTb := tb 206 (by decide +kernel) rfl
theorem tw207 : Cond.fieldLink "TextMorph$Buffer" (15 : Nat) "TextMorph$Buffer" "cells" "[I" ∈ xTb := tb 207 (by decide +kernel) rfl
theorem tw208 : Cond.fieldLink "TextMorph" (103 : Nat) "TextMorph$Buffer" "cells" "[I" ∈ xTb := tb 208 (by decide +kernel) rfl
theorem tw209 : Cond.fieldLink "TextMorph$Buffer" (18 : Nat) "TextMorph$Buffer" "length" "I" ∈ xTb := tb 209 (by decide +kernel) rfl
theorem tw210 : Cond.fieldLink "TextMorph" (98 : Nat) "TextMorph$Buffer" "length" "I" ∈ xTb := tb 210 (by decide +kernel) rfl
theorem tw218 : Cond.fieldLink "TextMorph" (12 : Nat) "TextMorph" "state" "LTextMorph$State;" ∈ xTb := tb 218 (by decide +kernel) rfl
theorem tw219 : Cond.fieldLink "TextMorph" (21 : Nat) "TextMorph" "morph" "LTextMorph$Morph;" ∈ xTb := tb 219 (by decide +kernel) rfl
theorem tw220 : Cond.fieldLink "TextMorph" (25 : Nat) "TextMorph" "tried" "LTextMorph$State;" ∈ xTb := tb 220 (by decide +kernel) rfl
theorem tw221 : Cond.fieldLink "TextMorph" (28 : Nat) "TextMorph" "trial" "LTextMorph$Morph;" ∈ xTb := tb 221 (by decide +kernel) rfl
theorem tw222 : Cond.fieldLink "TextMorph" (31 : Nat) "TextMorph" "saved" "[LTextMorph$State;" ∈ xTb := tb 222 (by decide +kernel) rfl
theorem tw223 : Cond.fieldLink "TextMorph" (38 : Nat) "TextMorph" "buffer" "LTextMorph$Buffer;" ∈ xTb := tb 223 (by decide +kernel) rfl
theorem tw224 : Cond.fieldLink "TextMorph" (42 : Nat) "TextMorph" "savedStates" "I" ∈ xTb := tb 224 (by decide +kernel) rfl
theorem tw225 : Cond.fieldLink "TextMorph" (46 : Nat) "TextMorph" "stale" "Z" ∈ xTb := tb 225 (by decide +kernel) rfl
theorem tw243 : Cond.methodLink "TextMorphLaw" (92 : Nat) ({ cls := "TextMorph", name := "count", desc := "(I)I" } : MethodName) ∈ xTb := tb 243 (by decide +kernel) rfl
theorem tw244 : Cond.instanceMethod ({ cls := "TextMorph", name := "count", desc := "(I)I" } : MethodName) ∈ xTb := tb 244 (by decide +kernel) rfl
theorem tw245 : Cond.selects "TextMorph" ({ cls := "TextMorph", name := "count", desc := "(I)I" } : MethodName) ({ cls := "TextMorph", name := "count", desc := "(I)I" } : MethodName) ∈ xTb := tb 245 (by decide +kernel) rfl
theorem tw246 : Cond.code ({ cls := "TextMorph", name := "count", desc := "(I)I" } : MethodName) prog_1_method_16_code (2 : Nat) (Option.some FieldType.int) ∈ xTb := tb 246 (by decide +kernel) rfl
theorem tw315 : Cond.methodLink "TextMorph" (135 : Nat) ({ cls := "TextMorph", name := "refresh", desc := "()V" } : MethodName) ∈ xTb := tb 315 (by decide +kernel) rfl
theorem tw317 : Cond.instanceMethod ({ cls := "TextMorph", name := "refresh", desc := "()V" } : MethodName) ∈ xTb := tb 317 (by decide +kernel) rfl
theorem tw318 : Cond.code ({ cls := "TextMorph", name := "refresh", desc := "()V" } : MethodName) prog_1_method_28_code (1 : Nat) (Option.none : Option FieldType) ∈ xTb := tb 318 (by decide +kernel) rfl
theorem tw319 : Cond.methodLink "TextMorph" (196 : Nat) ({ cls := "TextMorph$Morph", name := "work", desc := "()V" } : MethodName) ∈ xTb := tb 319 (by decide +kernel) rfl
theorem tw320 : Cond.instanceMethod ({ cls := "TextMorph$Morph", name := "work", desc := "()V" } : MethodName) ∈ xTb := tb 320 (by decide +kernel) rfl
theorem tw321 : Cond.selects "TextMorph$Morph" ({ cls := "TextMorph$Morph", name := "work", desc := "()V" } : MethodName) ({ cls := "TextMorph$Morph", name := "work", desc := "()V" } : MethodName) ∈ xTb := tb 321 (by decide +kernel) rfl
theorem tw322 : Cond.code ({ cls := "TextMorph$Morph", name := "work", desc := "()V" } : MethodName) prog_3_method_2_code (3 : Nat) (Option.none : Option FieldType) ∈ xTb := tb 322 (by decide +kernel) rfl
theorem tw323 : Cond.methodLink "TextMorph$Morph" (53 : Nat) ({ cls := "TextMorph$Pairs", name := "work", desc := "()V" } : MethodName) ∈ xTb := tb 323 (by decide +kernel) rfl
theorem tw324 : Cond.instanceMethod ({ cls := "TextMorph$Pairs", name := "work", desc := "()V" } : MethodName) ∈ xTb := tb 324 (by decide +kernel) rfl
theorem tw325 : Cond.selects "TextMorph$Pairs" ({ cls := "TextMorph$Pairs", name := "work", desc := "()V" } : MethodName) ({ cls := "TextMorph$Pairs", name := "work", desc := "()V" } : MethodName) ∈ xTb := tb 325 (by decide +kernel) rfl
theorem tw326 : Cond.code ({ cls := "TextMorph$Pairs", name := "work", desc := "()V" } : MethodName) prog_5_method_2_code (3 : Nat) (Option.none : Option FieldType) ∈ xTb := tb 326 (by decide +kernel) rfl
theorem tw327 : Cond.methodLink "TextMorph$Pairs" (34 : Nat) ({ cls := "TextMorph$Pairs", name := "unpairAll", desc := "()V" } : MethodName) ∈ xTb := tb 327 (by decide +kernel) rfl
theorem tw329 : Cond.instanceMethod ({ cls := "TextMorph$Pairs", name := "unpairAll", desc := "()V" } : MethodName) ∈ xTb := tb 329 (by decide +kernel) rfl
theorem tw330 : Cond.code ({ cls := "TextMorph$Pairs", name := "unpairAll", desc := "()V" } : MethodName) prog_5_method_4_code (1 : Nat) (Option.none : Option FieldType) ∈ xTb := tb 330 (by decide +kernel) rfl
theorem tw331 : Cond.methodLink "TextMorph$Pairs" (67 : Nat) ({ cls := "java/util/Arrays", name := "fill", desc := "([II)V" } : MethodName) ∈ xTb := tb 331 (by decide +kernel) rfl
theorem tw332 : Cond.methodLink "TextMorph$Pairs" (49 : Nat) ({ cls := "TextMorph$State", name := "text", desc := "(I)LTextMorph$Text;" } : MethodName) ∈ xTb := tb 332 (by decide +kernel) rfl
theorem tw333 : Cond.instanceMethod ({ cls := "TextMorph$State", name := "text", desc := "(I)LTextMorph$Text;" } : MethodName) ∈ xTb := tb 333 (by decide +kernel) rfl
theorem tw334 : Cond.selects "TextMorph$State" ({ cls := "TextMorph$State", name := "text", desc := "(I)LTextMorph$Text;" } : MethodName) ({ cls := "TextMorph$State", name := "text", desc := "(I)LTextMorph$Text;" } : MethodName) ∈ xTb := tb 334 (by decide +kernel) rfl
theorem tw335 : Cond.code ({ cls := "TextMorph$State", name := "text", desc := "(I)LTextMorph$Text;" } : MethodName) prog_6_method_2_code (2 : Nat) (Option.some (FieldType.object "TextMorph$Text")) ∈ xTb := tb 335 (by decide +kernel) rfl
theorem tw336 : Cond.methodLink "TextMorph$Pairs" (37 : Nat) ({ cls := "TextMorph$Pairs", name := "pairCommon", desc := "()V" } : MethodName) ∈ xTb := tb 336 (by decide +kernel) rfl
theorem tw338 : Cond.instanceMethod ({ cls := "TextMorph$Pairs", name := "pairCommon", desc := "()V" } : MethodName) ∈ xTb := tb 338 (by decide +kernel) rfl
theorem tw339 : Cond.code ({ cls := "TextMorph$Pairs", name := "pairCommon", desc := "()V" } : MethodName) prog_5_method_6_code (5 : Nat) (Option.none : Option FieldType) ∈ xTb := tb 339 (by decide +kernel) rfl
theorem tw340 : Cond.methodLink "TextMorph$Pairs" (77 : Nat) ({ cls := "TextMorph$Pairs", name := "measureLongest", desc := "()V" } : MethodName) ∈ xTb := tb 340 (by decide +kernel) rfl
theorem tw342 : Cond.instanceMethod ({ cls := "TextMorph$Pairs", name := "measureLongest", desc := "()V" } : MethodName) ∈ xTb := tb 342 (by decide +kernel) rfl
theorem tw343 : Cond.code ({ cls := "TextMorph$Pairs", name := "measureLongest", desc := "()V" } : MethodName) prog_5_method_7_code (6 : Nat) (Option.none : Option FieldType) ∈ xTb := tb 343 (by decide +kernel) rfl
theorem tw344 : Cond.methodLink "TextMorph$Pairs" (88 : Nat) ({ cls := "TextMorph$Text", name := "codeOf", desc := "(I)I" } : MethodName) ∈ xTb := tb 344 (by decide +kernel) rfl
theorem tw345 : Cond.instanceMethod ({ cls := "TextMorph$Text", name := "codeOf", desc := "(I)I" } : MethodName) ∈ xTb := tb 345 (by decide +kernel) rfl
theorem tw346 : Cond.selects "TextMorph$Text" ({ cls := "TextMorph$Text", name := "codeOf", desc := "(I)I" } : MethodName) ({ cls := "TextMorph$Text", name := "codeOf", desc := "(I)I" } : MethodName) ∈ xTb := tb 346 (by decide +kernel) rfl
theorem tw347 : Cond.code ({ cls := "TextMorph$Text", name := "codeOf", desc := "(I)I" } : MethodName) prog_7_method_8_code (2 : Nat) (Option.some FieldType.int) ∈ xTb := tb 347 (by decide +kernel) rfl
theorem tw348 : Cond.methodLink "TextMorph$Pairs" (91 : Nat) ({ cls := "java/lang/Math", name := "max", desc := "(II)I" } : MethodName) ∈ xTb := tb 348 (by decide +kernel) rfl
theorem tw349 : Cond.static ({ cls := "java/lang/Math", name := "max", desc := "(II)I" } : MethodName) ∈ xTb := tb 349 (by decide +kernel) rfl
theorem tw350 : Cond.code ({ cls := "java/lang/Math", name := "max", desc := "(II)I" } : MethodName) prog_14_method_65_code (2 : Nat) (Option.some FieldType.int) ∈ xTb := tb 350 (by decide +kernel) rfl
theorem tw351 : Cond.methodLink "TextMorph$Pairs" (80 : Nat) ({ cls := "TextMorph$Pairs", name := "partnerThatLeaves", desc := "(III)I" } : MethodName) ∈ xTb := tb 351 (by decide +kernel) rfl
theorem tw353 : Cond.instanceMethod ({ cls := "TextMorph$Pairs", name := "partnerThatLeaves", desc := "(III)I" } : MethodName) ∈ xTb := tb 353 (by decide +kernel) rfl
theorem tw354 : Cond.code ({ cls := "TextMorph$Pairs", name := "partnerThatLeaves", desc := "(III)I" } : MethodName) prog_5_method_8_code (6 : Nat) (Option.some FieldType.int) ∈ xTb := tb 354 (by decide +kernel) rfl
theorem tw355 : Cond.methodLink "TextMorph$Pairs" (84 : Nat) ({ cls := "TextMorph$Pairs", name := "pair", desc := "(III)V" } : MethodName) ∈ xTb := tb 355 (by decide +kernel) rfl
theorem tw357 : Cond.instanceMethod ({ cls := "TextMorph$Pairs", name := "pair", desc := "(III)V" } : MethodName) ∈ xTb := tb 357 (by decide +kernel) rfl
theorem tw358 : Cond.code ({ cls := "TextMorph$Pairs", name := "pair", desc := "(III)V" } : MethodName) prog_5_method_5_code (4 : Nat) (Option.none : Option FieldType) ∈ xTb := tb 358 (by decide +kernel) rfl
theorem tw359 : Cond.methodLink "TextMorph$Pairs" (45 : Nat) ({ cls := "TextMorph$Pairs", name := "pairNearest", desc := "(II)Z" } : MethodName) ∈ xTb := tb 359 (by decide +kernel) rfl
theorem tw361 : Cond.instanceMethod ({ cls := "TextMorph$Pairs", name := "pairNearest", desc := "(II)Z" } : MethodName) ∈ xTb := tb 361 (by decide +kernel) rfl
theorem tw362 : Cond.code ({ cls := "TextMorph$Pairs", name := "pairNearest", desc := "(II)Z" } : MethodName) prog_5_method_9_code (8 : Nat) (Option.some FieldType.boolean) ∈ xTb := tb 362 (by decide +kernel) rfl
theorem tw363 : Cond.methodLink "TextMorph$Pairs" (95 : Nat) ({ cls := "TextMorph$Pairs", name := "mayBePaired", desc := "(III)Z" } : MethodName) ∈ xTb := tb 363 (by decide +kernel) rfl
theorem tw365 : Cond.instanceMethod ({ cls := "TextMorph$Pairs", name := "mayBePaired", desc := "(III)Z" } : MethodName) ∈ xTb := tb 365 (by decide +kernel) rfl
theorem tw366 : Cond.code ({ cls := "TextMorph$Pairs", name := "mayBePaired", desc := "(III)Z" } : MethodName) prog_5_method_10_code (4 : Nat) (Option.some FieldType.boolean) ∈ xTb := tb 366 (by decide +kernel) rfl
theorem tw367 : Cond.methodLink "TextMorph$Pairs" (64 : Nat) ({ cls := "TextMorph$Text", name := "rowOf", desc := "(I)I" } : MethodName) ∈ xTb := tb 367 (by decide +kernel) rfl
theorem tw368 : Cond.instanceMethod ({ cls := "TextMorph$Text", name := "rowOf", desc := "(I)I" } : MethodName) ∈ xTb := tb 368 (by decide +kernel) rfl
theorem tw369 : Cond.selects "TextMorph$Text" ({ cls := "TextMorph$Text", name := "rowOf", desc := "(I)I" } : MethodName) ({ cls := "TextMorph$Text", name := "rowOf", desc := "(I)I" } : MethodName) ∈ xTb := tb 369 (by decide +kernel) rfl
theorem tw370 : Cond.code ({ cls := "TextMorph$Text", name := "rowOf", desc := "(I)I" } : MethodName) prog_7_method_6_code (2 : Nat) (Option.some FieldType.int) ∈ xTb := tb 370 (by decide +kernel) rfl
theorem tw371 : Cond.methodLink "TextMorph$Pairs" (99 : Nat) ({ cls := "TextMorph$Pairs", name := "distance", desc := "(II)I" } : MethodName) ∈ xTb := tb 371 (by decide +kernel) rfl
theorem tw372 : Cond.instanceMethod ({ cls := "TextMorph$Pairs", name := "distance", desc := "(II)I" } : MethodName) ∈ xTb := tb 372 (by decide +kernel) rfl
theorem tw373 : Cond.selects "TextMorph$Pairs" ({ cls := "TextMorph$Pairs", name := "distance", desc := "(II)I" } : MethodName) ({ cls := "TextMorph$Pairs", name := "distance", desc := "(II)I" } : MethodName) ∈ xTb := tb 373 (by decide +kernel) rfl
theorem tw374 : Cond.code ({ cls := "TextMorph$Pairs", name := "distance", desc := "(II)I" } : MethodName) prog_5_method_3_code (5 : Nat) (Option.some FieldType.int) ∈ xTb := tb 374 (by decide +kernel) rfl
theorem tw375 : Cond.methodLink "TextMorph$Pairs" (53 : Nat) ({ cls := "TextMorph$Text", name := "columnOf", desc := "(I)I" } : MethodName) ∈ xTb := tb 375 (by decide +kernel) rfl
theorem tw376 : Cond.instanceMethod ({ cls := "TextMorph$Text", name := "columnOf", desc := "(I)I" } : MethodName) ∈ xTb := tb 376 (by decide +kernel) rfl
theorem tw377 : Cond.selects "TextMorph$Text" ({ cls := "TextMorph$Text", name := "columnOf", desc := "(I)I" } : MethodName) ({ cls := "TextMorph$Text", name := "columnOf", desc := "(I)I" } : MethodName) ∈ xTb := tb 377 (by decide +kernel) rfl
theorem tw378 : Cond.code ({ cls := "TextMorph$Text", name := "columnOf", desc := "(I)I" } : MethodName) prog_7_method_7_code (2 : Nat) (Option.some FieldType.int) ∈ xTb := tb 378 (by decide +kernel) rfl
theorem tw379 : Cond.methodLink "TextMorph$Pairs" (59 : Nat) ({ cls := "java/lang/Math", name := "abs", desc := "(I)I" } : MethodName) ∈ xTb := tb 379 (by decide +kernel) rfl
theorem tw380 : Cond.static ({ cls := "java/lang/Math", name := "abs", desc := "(I)I" } : MethodName) ∈ xTb := tb 380 (by decide +kernel) rfl
theorem tw381 : Cond.code ({ cls := "java/lang/Math", name := "abs", desc := "(I)I" } : MethodName) prog_14_method_59_code (1 : Nat) (Option.some FieldType.int) ∈ xTb := tb 381 (by decide +kernel) rfl
theorem tw382 : Cond.methodLink "TextMorph$Morph" (56 : Nat) ({ cls := "TextMorph$Motion", name := "work", desc := "()V" } : MethodName) ∈ xTb := tb 382 (by decide +kernel) rfl
theorem tw383 : Cond.instanceMethod ({ cls := "TextMorph$Motion", name := "work", desc := "()V" } : MethodName) ∈ xTb := tb 383 (by decide +kernel) rfl
theorem tw384 : Cond.selects "TextMorph$Motion" ({ cls := "TextMorph$Motion", name := "work", desc := "()V" } : MethodName) ({ cls := "TextMorph$Motion", name := "work", desc := "()V" } : MethodName) ∈ xTb := tb 384 (by decide +kernel) rfl
theorem tw385 : Cond.code ({ cls := "TextMorph$Motion", name := "work", desc := "()V" } : MethodName) prog_4_method_2_code (4 : Nat) (Option.none : Option FieldType) ∈ xTb := tb 385 (by decide +kernel) rfl
theorem tw386 : Cond.methodLink "TextMorph$Motion" (54 : Nat) ({ cls := "TextMorph$Motion", name := "start", desc := "()V" } : MethodName) ∈ xTb := tb 386 (by decide +kernel) rfl
theorem tw388 : Cond.instanceMethod ({ cls := "TextMorph$Motion", name := "start", desc := "()V" } : MethodName) ∈ xTb := tb 388 (by decide +kernel) rfl
theorem tw389 : Cond.code ({ cls := "TextMorph$Motion", name := "start", desc := "()V" } : MethodName) prog_4_method_6_code (3 : Nat) (Option.none : Option FieldType) ∈ xTb := tb 389 (by decide +kernel) rfl
theorem tw390 : Cond.methodLink "TextMorph$Motion" (89 : Nat) ({ cls := "java/util/Arrays", name := "fill", desc := "([II)V" } : MethodName) ∈ xTb := tb 390 (by decide +kernel) rfl
theorem tw391 : Cond.methodLink "TextMorph$Motion" (66 : Nat) ({ cls := "TextMorph$State", name := "text", desc := "(I)LTextMorph$Text;" } : MethodName) ∈ xTb := tb 391 (by decide +kernel) rfl
theorem tw392 : Cond.methodLink "TextMorph$Motion" (77 : Nat) ({ cls := "TextMorph$Motion", name := "isAway", desc := "(I)Z" } : MethodName) ∈ xTb := tb 392 (by decide +kernel) rfl
theorem tw394 : Cond.instanceMethod ({ cls := "TextMorph$Motion", name := "isAway", desc := "(I)Z" } : MethodName) ∈ xTb := tb 394 (by decide +kernel) rfl
theorem tw395 : Cond.code ({ cls := "TextMorph$Motion", name := "isAway", desc := "(I)Z" } : MethodName) prog_4_method_8_code (2 : Nat) (Option.some FieldType.boolean) ∈ xTb := tb 395 (by decide +kernel) rfl
theorem tw396 : Cond.methodLink "TextMorph$Motion" (57 : Nat) ({ cls := "TextMorph$Motion", name := "record", desc := "(I)V" } : MethodName) ∈ xTb := tb 396 (by decide +kernel) rfl
theorem tw398 : Cond.instanceMethod ({ cls := "TextMorph$Motion", name := "record", desc := "(I)V" } : MethodName) ∈ xTb := tb 398 (by decide +kernel) rfl
theorem tw399 : Cond.code ({ cls := "TextMorph$Motion", name := "record", desc := "(I)V" } : MethodName) prog_4_method_7_code (2 : Nat) (Option.none : Option FieldType) ∈ xTb := tb 399 (by decide +kernel) rfl
theorem tw400 : Cond.methodLink "TextMorph$Motion" (99 : Nat) ({ cls := "java/lang/System", name := "arraycopy", desc := "(Ljava/lang/Object;ILjava/lang/Object;II)V" } : MethodName) ∈ xTb := tb 400 (by decide +kernel) rfl
theorem tw401 : Cond.methodLink "TextMorph$Motion" (81 : Nat) ({ cls := "TextMorph$Motion", name := "moveOrHold", desc := "(II)V" } : MethodName) ∈ xTb := tb 401 (by decide +kernel) rfl
theorem tw403 : Cond.instanceMethod ({ cls := "TextMorph$Motion", name := "moveOrHold", desc := "(II)V" } : MethodName) ∈ xTb := tb 403 (by decide +kernel) rfl
theorem tw404 : Cond.code ({ cls := "TextMorph$Motion", name := "moveOrHold", desc := "(II)V" } : MethodName) prog_4_method_9_code (4 : Nat) (Option.none : Option FieldType) ∈ xTb := tb 404 (by decide +kernel) rfl
theorem tw405 : Cond.methodLink "TextMorph$Motion" (105 : Nat) ({ cls := "TextMorph$Motion", name := "nextCell", desc := "(II)I" } : MethodName) ∈ xTb := tb 405 (by decide +kernel) rfl
theorem tw407 : Cond.instanceMethod ({ cls := "TextMorph$Motion", name := "nextCell", desc := "(II)I" } : MethodName) ∈ xTb := tb 407 (by decide +kernel) rfl
theorem tw408 : Cond.code ({ cls := "TextMorph$Motion", name := "nextCell", desc := "(II)I" } : MethodName) prog_4_method_10_code (5 : Nat) (Option.some FieldType.int) ∈ xTb := tb 408 (by decide +kernel) rfl
theorem tw409 : Cond.methodLink "TextMorph$Motion" (111 : Nat) ({ cls := "java/lang/Math", name := "abs", desc := "(I)I" } : MethodName) ∈ xTb := tb 409 (by decide +kernel) rfl
theorem tw410 : Cond.methodLink "TextMorph$Motion" (117 : Nat) ({ cls := "TextMorph$Motion", name := "goesAlongRow", desc := "(II)Z" } : MethodName) ∈ xTb := tb 410 (by decide +kernel) rfl
theorem tw412 : Cond.instanceMethod ({ cls := "TextMorph$Motion", name := "goesAlongRow", desc := "(II)Z" } : MethodName) ∈ xTb := tb 412 (by decide +kernel) rfl
theorem tw413 : Cond.code ({ cls := "TextMorph$Motion", name := "goesAlongRow", desc := "(II)Z" } : MethodName) prog_4_method_11_code (3 : Nat) (Option.some FieldType.boolean) ∈ xTb := tb 413 (by decide +kernel) rfl
theorem tw414 : Cond.methodLink "TextMorph$Morph" (65 : Nat) ({ cls := "TextMorph$State", name := "text", desc := "(I)LTextMorph$Text;" } : MethodName) ∈ xTb := tb 414 (by decide +kernel) rfl
theorem tw415 : Cond.methodLink "TextMorph" (190 : Nat) ({ cls := "TextMorph$Morph", name := "number", desc := "(I)I" } : MethodName) ∈ xTb := tb 415 (by decide +kernel) rfl
theorem tw416 : Cond.instanceMethod ({ cls := "TextMorph$Morph", name := "number", desc := "(I)I" } : MethodName) ∈ xTb := tb 416 (by decide +kernel) rfl
theorem tw417 : Cond.selects "TextMorph$Morph" ({ cls := "TextMorph$Morph", name := "number", desc := "(I)I" } : MethodName) ({ cls := "TextMorph$Morph", name := "number", desc := "(I)I" } : MethodName) ∈ xTb := tb 417 (by decide +kernel) rfl
theorem tw418 : Cond.code ({ cls := "TextMorph$Morph", name := "number", desc := "(I)I" } : MethodName) prog_3_method_4_code (2 : Nat) (Option.some FieldType.int) ∈ xTb := tb 418 (by decide +kernel) rfl
theorem tw419 : Cond.methodLink "TextMorph$Morph" (83 : Nat) ({ cls := "TextMorph$Morph", name := "frames", desc := "()I" } : MethodName) ∈ xTb := tb 419 (by decide +kernel) rfl
theorem tw420 : Cond.instanceMethod ({ cls := "TextMorph$Morph", name := "frames", desc := "()I" } : MethodName) ∈ xTb := tb 420 (by decide +kernel) rfl
theorem tw421 : Cond.selects "TextMorph$Morph" ({ cls := "TextMorph$Morph", name := "frames", desc := "()I" } : MethodName) ({ cls := "TextMorph$Morph", name := "frames", desc := "()I" } : MethodName) ∈ xTb := tb 421 (by decide +kernel) rfl
theorem tw422 : Cond.code ({ cls := "TextMorph$Morph", name := "frames", desc := "()I" } : MethodName) prog_3_method_3_code (1 : Nat) (Option.some FieldType.int) ∈ xTb := tb 422 (by decide +kernel) rfl
theorem tw423 : Cond.methodLink "TextMorph$Morph" (86 : Nat) ({ cls := "TextMorph$Morph", name := "distancesOfAll", desc := "()I" } : MethodName) ∈ xTb := tb 423 (by decide +kernel) rfl
theorem tw425 : Cond.instanceMethod ({ cls := "TextMorph$Morph", name := "distancesOfAll", desc := "()I" } : MethodName) ∈ xTb := tb 425 (by decide +kernel) rfl
theorem tw426 : Cond.code ({ cls := "TextMorph$Morph", name := "distancesOfAll", desc := "()I" } : MethodName) prog_3_method_10_code (3 : Nat) (Option.some FieldType.int) ∈ xTb := tb 426 (by decide +kernel) rfl
theorem tw427 : Cond.methodLink "TextMorph$Morph" (121 : Nat) ({ cls := "TextMorph$Morph", name := "vanishes", desc := "(I)Z" } : MethodName) ∈ xTb := tb 427 (by decide +kernel) rfl
theorem tw429 : Cond.instanceMethod ({ cls := "TextMorph$Morph", name := "vanishes", desc := "(I)Z" } : MethodName) ∈ xTb := tb 429 (by decide +kernel) rfl
theorem tw430 : Cond.code ({ cls := "TextMorph$Morph", name := "vanishes", desc := "(I)Z" } : MethodName) prog_3_method_13_code (2 : Nat) (Option.some FieldType.boolean) ∈ xTb := tb 430 (by decide +kernel) rfl
theorem tw431 : Cond.methodLink "TextMorph$Morph" (111 : Nat) ({ cls := "TextMorph$Pairs", name := "distance", desc := "(II)I" } : MethodName) ∈ xTb := tb 431 (by decide +kernel) rfl
theorem tw432 : Cond.methodLink "TextMorph$Morph" (89 : Nat) ({ cls := "TextMorph$Morph", name := "stepsOfAll", desc := "()I" } : MethodName) ∈ xTb := tb 432 (by decide +kernel) rfl
theorem tw434 : Cond.instanceMethod ({ cls := "TextMorph$Morph", name := "stepsOfAll", desc := "()I" } : MethodName) ∈ xTb := tb 434 (by decide +kernel) rfl
theorem tw435 : Cond.code ({ cls := "TextMorph$Morph", name := "stepsOfAll", desc := "()I" } : MethodName) prog_3_method_11_code (3 : Nat) (Option.some FieldType.int) ∈ xTb := tb 435 (by decide +kernel) rfl
theorem tw436 : Cond.methodLink "TextMorph$Morph" (115 : Nat) ({ cls := "TextMorph$Morph", name := "steps", desc := "(I)I" } : MethodName) ∈ xTb := tb 436 (by decide +kernel) rfl
theorem tw438 : Cond.instanceMethod ({ cls := "TextMorph$Morph", name := "steps", desc := "(I)I" } : MethodName) ∈ xTb := tb 438 (by decide +kernel) rfl
theorem tw439 : Cond.code ({ cls := "TextMorph$Morph", name := "steps", desc := "(I)I" } : MethodName) prog_3_method_12_code (3 : Nat) (Option.some FieldType.int) ∈ xTb := tb 439 (by decide +kernel) rfl
theorem tw440 : Cond.methodLink "TextMorph$Morph" (105 : Nat) ({ cls := "TextMorph$Text", name := "columnOf", desc := "(I)I" } : MethodName) ∈ xTb := tb 440 (by decide +kernel) rfl
theorem tw441 : Cond.methodLink "TextMorph$Morph" (157 : Nat) ({ cls := "java/lang/Math", name := "abs", desc := "(I)I" } : MethodName) ∈ xTb := tb 441 (by decide +kernel) rfl
theorem tw442 : Cond.methodLink "TextMorph$Morph" (101 : Nat) ({ cls := "TextMorph$Text", name := "rowOf", desc := "(I)I" } : MethodName) ∈ xTb := tb 442 (by decide +kernel) rfl
theorem tw443 : Cond.methodLink "TextMorphLaw" (132 : Nat) ({ cls := "TextMorphLaw", name := "cell", desc := "([II)I" } : MethodName) ∈ xTb := tb 443 (by decide +kernel) rfl
theorem tw444 : Cond.static ({ cls := "TextMorphLaw", name := "cell", desc := "([II)I" } : MethodName) ∈ xTb := tb 444 (by decide +kernel) rfl
theorem tw445 : Cond.code ({ cls := "TextMorphLaw", name := "cell", desc := "([II)I" } : MethodName) method_2_code (2 : Nat) (Option.some FieldType.int) ∈ xTb := tb 445 (by decide +kernel) rfl
theorem tw446 : Cond.constant "TextMorphLaw" (7 : Nat) (739982445 : Int32) ∈ xTb := tb 446 (by decide +kernel) rfl
theorem tw447 : Cond.methodLink "TextMorphLaw" (99 : Nat) ({ cls := "TextMorphLaw", name := "at", desc := "(II)I" } : MethodName) ∈ xTb := tb 447 (by decide +kernel) rfl
theorem tw448 : Cond.static ({ cls := "TextMorphLaw", name := "at", desc := "(II)I" } : MethodName) ∈ xTb := tb 448 (by decide +kernel) rfl
theorem tw449 : Cond.code ({ cls := "TextMorphLaw", name := "at", desc := "(II)I" } : MethodName) method_3_code (2 : Nat) (Option.some FieldType.int) ∈ xTb := tb 449 (by decide +kernel) rfl
theorem tw450 : Cond.methodLink "TextMorphLaw" (128 : Nat) ({ cls := "TextMorphLaw", name := "told", desc := "(LTextMorph;I[I[I[I[I)Z" } : MethodName) ∈ xTb := tb 450 (by decide +kernel) rfl
theorem tw451 : Cond.static ({ cls := "TextMorphLaw", name := "told", desc := "(LTextMorph;I[I[I[I[I)Z" } : MethodName) ∈ xTb := tb 451 (by decide +kernel) rfl
theorem tw452 : Cond.code ({ cls := "TextMorphLaw", name := "told", desc := "(LTextMorph;I[I[I[I[I)Z" } : MethodName) method_16_code (14 : Nat) (Option.some FieldType.boolean) ∈ xTb := tb 452 (by decide +kernel) rfl
theorem tw453 : Cond.methodLink "TextMorphLaw" (50 : Nat) ({ cls := "TextMorphLaw", name := "pairs", desc := "([I[I[I[I[I)V" } : MethodName) ∈ xTb := tb 453 (by decide +kernel) rfl
theorem tw454 : Cond.static ({ cls := "TextMorphLaw", name := "pairs", desc := "([I[I[I[I[I)V" } : MethodName) ∈ xTb := tb 454 (by decide +kernel) rfl
theorem tw455 : Cond.code ({ cls := "TextMorphLaw", name := "pairs", desc := "([I[I[I[I[I)V" } : MethodName) method_9_code (6 : Nat) (Option.none : Option FieldType) ∈ xTb := tb 455 (by decide +kernel) rfl
theorem tw456 : Cond.methodLink "TextMorphLaw" (22 : Nat) ({ cls := "TextMorphLaw", name := "common", desc := "([I[I[I[I)V" } : MethodName) ∈ xTb := tb 456 (by decide +kernel) rfl
theorem tw457 : Cond.static ({ cls := "TextMorphLaw", name := "common", desc := "([I[I[I[I)V" } : MethodName) ∈ xTb := tb 457 (by decide +kernel) rfl
theorem tw458 : Cond.code ({ cls := "TextMorphLaw", name := "common", desc := "([I[I[I[I)V" } : MethodName) method_6_code (14 : Nat) (Option.none : Option FieldType) ∈ xTb := tb 458 (by decide +kernel) rfl
theorem tw459 : Cond.methodLink "TextMorphLaw" (26 : Nat) ({ cls := "TextMorphLaw", name := "near", desc := "(I[I[I[I[I[I)V" } : MethodName) ∈ xTb := tb 459 (by decide +kernel) rfl
theorem tw460 : Cond.static ({ cls := "TextMorphLaw", name := "near", desc := "(I[I[I[I[I[I)V" } : MethodName) ∈ xTb := tb 460 (by decide +kernel) rfl
theorem tw461 : Cond.code ({ cls := "TextMorphLaw", name := "near", desc := "(I[I[I[I[I[I)V" } : MethodName) method_8_code (9 : Nat) (Option.none : Option FieldType) ∈ xTb := tb 461 (by decide +kernel) rfl
theorem tw462 : Cond.methodLink "TextMorphLaw" (14 : Nat) ({ cls := "TextMorphLaw", name := "far", desc := "(II[I[I[I)I" } : MethodName) ∈ xTb := tb 462 (by decide +kernel) rfl
theorem tw463 : Cond.static ({ cls := "TextMorphLaw", name := "far", desc := "(II[I[I[I)I" } : MethodName) ∈ xTb := tb 463 (by decide +kernel) rfl
theorem tw464 : Cond.code ({ cls := "TextMorphLaw", name := "far", desc := "(II[I[I[I)I" } : MethodName) method_5_code (5 : Nat) (Option.some FieldType.int) ∈ xTb := tb 464 (by decide +kernel) rfl
theorem tw465 : Cond.methodLink "TextMorphLaw" (8 : Nat) ({ cls := "TextMorphLaw", name := "abs", desc := "(I)I" } : MethodName) ∈ xTb := tb 465 (by decide +kernel) rfl
theorem tw466 : Cond.static ({ cls := "TextMorphLaw", name := "abs", desc := "(I)I" } : MethodName) ∈ xTb := tb 466 (by decide +kernel) rfl
theorem tw467 : Cond.code ({ cls := "TextMorphLaw", name := "abs", desc := "(I)I" } : MethodName) method_4_code (1 : Nat) (Option.some FieldType.int) ∈ xTb := tb 467 (by decide +kernel) rfl
theorem tw468 : Cond.methodLink "TextMorphLaw" (18 : Nat) ({ cls := "TextMorphLaw", name := "taken", desc := "(I[I[I)Z" } : MethodName) ∈ xTb := tb 468 (by decide +kernel) rfl
theorem tw469 : Cond.static ({ cls := "TextMorphLaw", name := "taken", desc := "(I[I[I)Z" } : MethodName) ∈ xTb := tb 469 (by decide +kernel) rfl
theorem tw470 : Cond.code ({ cls := "TextMorphLaw", name := "taken", desc := "(I[I[I)Z" } : MethodName) method_7_code (4 : Nat) (Option.some FieldType.boolean) ∈ xTb := tb 470 (by decide +kernel) rfl
theorem tw471 : Cond.methodLink "TextMorphLaw" (54 : Nat) ({ cls := "TextMorphLaw", name := "frame", desc := "(LTextMorph;IIIZI[I[I[I[I[I)Z" } : MethodName) ∈ xTb := tb 471 (by decide +kernel) rfl
theorem tw472 : Cond.static ({ cls := "TextMorphLaw", name := "frame", desc := "(LTextMorph;IIIZI[I[I[I[I[I)Z" } : MethodName) ∈ xTb := tb 472 (by decide +kernel) rfl
theorem tw473 : Cond.code ({ cls := "TextMorphLaw", name := "frame", desc := "(LTextMorph;IIIZI[I[I[I[I[I)Z" } : MethodName) method_15_code (17 : Nat) (Option.some FieldType.boolean) ∈ xTb := tb 473 (by decide +kernel) rfl
theorem tw474 : Cond.methodLink "TextMorphLaw" (34 : Nat) ({ cls := "TextMorphLaw", name := "shown", desc := "(IIZ[I[I[I[I[I)I" } : MethodName) ∈ xTb := tb 474 (by decide +kernel) rfl
theorem tw475 : Cond.static ({ cls := "TextMorphLaw", name := "shown", desc := "(IIZ[I[I[I[I[I)I" } : MethodName) ∈ xTb := tb 475 (by decide +kernel) rfl
theorem tw476 : Cond.code ({ cls := "TextMorphLaw", name := "shown", desc := "(IIZ[I[I[I[I[I)I" } : MethodName) method_14_code (10 : Nat) (Option.some FieldType.int) ∈ xTb := tb 476 (by decide +kernel) rfl
theorem tw477 : Cond.methodLink "TextMorphLaw" (38 : Nat) ({ cls := "TextMorph", name := "at", desc := "(III)I" } : MethodName) ∈ xTb := tb 477 (by decide +kernel) rfl
theorem tw478 : Cond.instanceMethod ({ cls := "TextMorph", name := "at", desc := "(III)I" } : MethodName) ∈ xTb := tb 478 (by decide +kernel) rfl
theorem tw479 : Cond.selects "TextMorph" ({ cls := "TextMorph", name := "at", desc := "(III)I" } : MethodName) ({ cls := "TextMorph", name := "at", desc := "(III)I" } : MethodName) ∈ xTb := tb 479 (by decide +kernel) rfl
theorem tw480 : Cond.code ({ cls := "TextMorph", name := "at", desc := "(III)I" } : MethodName) prog_1_method_13_code (4 : Nat) (Option.some FieldType.int) ∈ xTb := tb 480 (by decide +kernel) rfl
theorem tw481 : Cond.methodLink "TextMorph" (170 : Nat) ({ cls := "TextMorph", name := "isFrame", desc := "(I)Z" } : MethodName) ∈ xTb := tb 481 (by decide +kernel) rfl
theorem tw483 : Cond.instanceMethod ({ cls := "TextMorph", name := "isFrame", desc := "(I)Z" } : MethodName) ∈ xTb := tb 483 (by decide +kernel) rfl
theorem tw484 : Cond.code ({ cls := "TextMorph", name := "isFrame", desc := "(I)Z" } : MethodName) prog_1_method_29_code (2 : Nat) (Option.some FieldType.boolean) ∈ xTb := tb 484 (by decide +kernel) rfl
theorem tw485 : Cond.methodLink "TextMorph" (138 : Nat) ({ cls := "TextMorph$Morph", name := "frames", desc := "()I" } : MethodName) ∈ xTb := tb 485 (by decide +kernel) rfl
theorem tw486 : Cond.methodLink "TextMorph" (110 : Nat) ({ cls := "TextMorph", name := "isCell", desc := "(II)Z" } : MethodName) ∈ xTb := tb 486 (by decide +kernel) rfl
theorem tw487 : Cond.static ({ cls := "TextMorph", name := "isCell", desc := "(II)Z" } : MethodName) ∈ xTb := tb 487 (by decide +kernel) rfl
theorem tw488 : Cond.code ({ cls := "TextMorph", name := "isCell", desc := "(II)Z" } : MethodName) prog_1_method_32_code (2 : Nat) (Option.some FieldType.boolean) ∈ xTb := tb 488 (by decide +kernel) rfl
theorem tw505 : Cond.methodLink "TextMorph" (175 : Nat) ({ cls := "TextMorph$Morph", name := "codeShown", desc := "(II)I" } : MethodName) ∈ xTb := tb 505 (by decide +kernel) rfl
theorem tw506 : Cond.instanceMethod ({ cls := "TextMorph$Morph", name := "codeShown", desc := "(II)I" } : MethodName) ∈ xTb := tb 506 (by decide +kernel) rfl
theorem tw507 : Cond.selects "TextMorph$Morph" ({ cls := "TextMorph$Morph", name := "codeShown", desc := "(II)I" } : MethodName) ({ cls := "TextMorph$Morph", name := "codeShown", desc := "(II)I" } : MethodName) ∈ xTb := tb 507 (by decide +kernel) rfl
theorem tw508 : Cond.code ({ cls := "TextMorph$Morph", name := "codeShown", desc := "(II)I" } : MethodName) prog_3_method_8_code (3 : Nat) (Option.some FieldType.int) ∈ xTb := tb 508 (by decide +kernel) rfl
theorem tw509 : Cond.methodLink "TextMorph$Morph" (138 : Nat) ({ cls := "TextMorph$Morph", name := "show", desc := "(I[I)V" } : MethodName) ∈ xTb := tb 509 (by decide +kernel) rfl
theorem tw511 : Cond.instanceMethod ({ cls := "TextMorph$Morph", name := "show", desc := "(I[I)V" } : MethodName) ∈ xTb := tb 511 (by decide +kernel) rfl
theorem tw512 : Cond.code ({ cls := "TextMorph$Morph", name := "show", desc := "(I[I)V" } : MethodName) prog_3_method_17_code (5 : Nat) (Option.none : Option FieldType) ∈ xTb := tb 512 (by decide +kernel) rfl
theorem tw513 : Cond.methodLink "TextMorph$Morph" (171 : Nat) ({ cls := "java/util/Arrays", name := "fill", desc := "([II)V" } : MethodName) ∈ xTb := tb 513 (by decide +kernel) rfl
theorem tw514 : Cond.methodLink "TextMorph$Morph" (108 : Nat) ({ cls := "TextMorph$Text", name := "codeOf", desc := "(I)I" } : MethodName) ∈ xTb := tb 514 (by decide +kernel) rfl
theorem tw515 : Cond.methodLink "TextMorph$Morph" (180 : Nat) ({ cls := "TextMorph$Morph", name := "cellOf", desc := "(II)I" } : MethodName) ∈ xTb := tb 515 (by decide +kernel) rfl
theorem tw516 : Cond.instanceMethod ({ cls := "TextMorph$Morph", name := "cellOf", desc := "(II)I" } : MethodName) ∈ xTb := tb 516 (by decide +kernel) rfl
theorem tw517 : Cond.selects "TextMorph$Morph" ({ cls := "TextMorph$Morph", name := "cellOf", desc := "(II)I" } : MethodName) ({ cls := "TextMorph$Morph", name := "cellOf", desc := "(II)I" } : MethodName) ∈ xTb := tb 517 (by decide +kernel) rfl
theorem tw518 : Cond.code ({ cls := "TextMorph$Morph", name := "cellOf", desc := "(II)I" } : MethodName) prog_3_method_7_code (3 : Nat) (Option.some FieldType.int) ∈ xTb := tb 518 (by decide +kernel) rfl
theorem tw519 : Cond.methodLink "TextMorph$Morph" (128 : Nat) ({ cls := "TextMorph$Morph", name := "isGone", desc := "(II)Z" } : MethodName) ∈ xTb := tb 519 (by decide +kernel) rfl
theorem tw521 : Cond.instanceMethod ({ cls := "TextMorph$Morph", name := "isGone", desc := "(II)Z" } : MethodName) ∈ xTb := tb 521 (by decide +kernel) rfl
theorem tw522 : Cond.code ({ cls := "TextMorph$Morph", name := "isGone", desc := "(II)Z" } : MethodName) prog_3_method_14_code (3 : Nat) (Option.some FieldType.boolean) ∈ xTb := tb 522 (by decide +kernel) rfl
theorem tw523 : Cond.methodLink "TextMorph$Morph" (132 : Nat) ({ cls := "TextMorph$Morph", name := "movedBy", desc := "(I)I" } : MethodName) ∈ xTb := tb 523 (by decide +kernel) rfl
theorem tw525 : Cond.instanceMethod ({ cls := "TextMorph$Morph", name := "movedBy", desc := "(I)I" } : MethodName) ∈ xTb := tb 525 (by decide +kernel) rfl
theorem tw526 : Cond.code ({ cls := "TextMorph$Morph", name := "movedBy", desc := "(I)I" } : MethodName) prog_3_method_15_code (2 : Nat) (Option.some FieldType.int) ∈ xTb := tb 526 (by decide +kernel) rfl
theorem tw527 : Cond.methodLink "TextMorph$Morph" (162 : Nat) ({ cls := "java/lang/Math", name := "min", desc := "(II)I" } : MethodName) ∈ xTb := tb 527 (by decide +kernel) rfl
theorem tw528 : Cond.static ({ cls := "java/lang/Math", name := "min", desc := "(II)I" } : MethodName) ∈ xTb := tb 528 (by decide +kernel) rfl
theorem tw529 : Cond.code ({ cls := "java/lang/Math", name := "min", desc := "(II)I" } : MethodName) prog_14_method_69_code (2 : Nat) (Option.some FieldType.int) ∈ xTb := tb 529 (by decide +kernel) rfl
theorem tw530 : Cond.methodLink "TextMorph$Morph" (165 : Nat) ({ cls := "java/lang/Math", name := "max", desc := "(II)I" } : MethodName) ∈ xTb := tb 530 (by decide +kernel) rfl
theorem tw531 : Cond.methodLink "TextMorph$Morph" (135 : Nat) ({ cls := "TextMorph$Motion", name := "cellAfter", desc := "(II)I" } : MethodName) ∈ xTb := tb 531 (by decide +kernel) rfl
theorem tw532 : Cond.instanceMethod ({ cls := "TextMorph$Motion", name := "cellAfter", desc := "(II)I" } : MethodName) ∈ xTb := tb 532 (by decide +kernel) rfl
theorem tw533 : Cond.selects "TextMorph$Motion" ({ cls := "TextMorph$Motion", name := "cellAfter", desc := "(II)I" } : MethodName) ({ cls := "TextMorph$Motion", name := "cellAfter", desc := "(II)I" } : MethodName) ∈ xTb := tb 533 (by decide +kernel) rfl
theorem tw534 : Cond.code ({ cls := "TextMorph$Motion", name := "cellAfter", desc := "(II)I" } : MethodName) prog_4_method_3_code (3 : Nat) (Option.some FieldType.int) ∈ xTb := tb 534 (by decide +kernel) rfl
theorem tw535 : Cond.methodLink "TextMorph$Morph" (183 : Nat) ({ cls := "TextMorph$Morph", name := "pieceCode", desc := "(II)I" } : MethodName) ∈ xTb := tb 535 (by decide +kernel) rfl
theorem tw537 : Cond.instanceMethod ({ cls := "TextMorph$Morph", name := "pieceCode", desc := "(II)I" } : MethodName) ∈ xTb := tb 537 (by decide +kernel) rfl
theorem tw538 : Cond.code ({ cls := "TextMorph$Morph", name := "pieceCode", desc := "(II)I" } : MethodName) prog_3_method_16_code (4 : Nat) (Option.some FieldType.int) ∈ xTb := tb 538 (by decide +kernel) rfl
theorem tw539 : Cond.methodLink "TextMorph$Morph" (168 : Nat) ({ cls := "TextMorph$Motion", name := "isAtGoalAfter", desc := "(II)Z" } : MethodName) ∈ xTb := tb 539 (by decide +kernel) rfl
theorem tw540 : Cond.instanceMethod ({ cls := "TextMorph$Motion", name := "isAtGoalAfter", desc := "(II)Z" } : MethodName) ∈ xTb := tb 540 (by decide +kernel) rfl
theorem tw541 : Cond.selects "TextMorph$Motion" ({ cls := "TextMorph$Motion", name := "isAtGoalAfter", desc := "(II)Z" } : MethodName) ({ cls := "TextMorph$Motion", name := "isAtGoalAfter", desc := "(II)Z" } : MethodName) ∈ xTb := tb 541 (by decide +kernel) rfl
theorem tw542 : Cond.code ({ cls := "TextMorph$Motion", name := "isAtGoalAfter", desc := "(II)Z" } : MethodName) prog_4_method_4_code (3 : Nat) (Option.some FieldType.boolean) ∈ xTb := tb 542 (by decide +kernel) rfl
theorem tw543 : Cond.methodLink "TextMorph$Motion" (85 : Nat) ({ cls := "TextMorph$Motion", name := "cellAfter", desc := "(II)I" } : MethodName) ∈ xTb := tb 543 (by decide +kernel) rfl
theorem tw544 : Cond.methodLink "TextMorphLaw" (43 : Nat) ({ cls := "TextMorph", name := "place", desc := "(II)I" } : MethodName) ∈ xTb := tb 544 (by decide +kernel) rfl
theorem tw545 : Cond.instanceMethod ({ cls := "TextMorph", name := "place", desc := "(II)I" } : MethodName) ∈ xTb := tb 545 (by decide +kernel) rfl
theorem tw546 : Cond.selects "TextMorph" ({ cls := "TextMorph", name := "place", desc := "(II)I" } : MethodName) ({ cls := "TextMorph", name := "place", desc := "(II)I" } : MethodName) ∈ xTb := tb 546 (by decide +kernel) rfl
theorem tw547 : Cond.code ({ cls := "TextMorph", name := "place", desc := "(II)I" } : MethodName) prog_1_method_14_code (3 : Nat) (Option.some FieldType.int) ∈ xTb := tb 547 (by decide +kernel) rfl
theorem tw548 : Cond.methodLink "TextMorph" (161 : Nat) ({ cls := "TextMorph", name := "isPiece", desc := "(I)Z" } : MethodName) ∈ xTb := tb 548 (by decide +kernel) rfl
theorem tw550 : Cond.instanceMethod ({ cls := "TextMorph", name := "isPiece", desc := "(I)Z" } : MethodName) ∈ xTb := tb 550 (by decide +kernel) rfl
theorem tw551 : Cond.code ({ cls := "TextMorph", name := "isPiece", desc := "(I)Z" } : MethodName) prog_1_method_30_code (2 : Nat) (Option.some FieldType.boolean) ∈ xTb := tb 551 (by decide +kernel) rfl
theorem tw552 : Cond.methodLink "TextMorph" (53 : Nat) ({ cls := "TextMorph$State", name := "text", desc := "(I)LTextMorph$Text;" } : MethodName) ∈ xTb := tb 552 (by decide +kernel) rfl
theorem tw554 : Cond.methodLink "TextMorph" (180 : Nat) ({ cls := "TextMorph$Morph", name := "cellOf", desc := "(II)I" } : MethodName) ∈ xTb := tb 554 (by decide +kernel) rfl
theorem tw555 : Cond.methodLink "TextMorphLaw" (47 : Nat) ({ cls := "TextMorph", name := "frame", desc := "(II)I" } : MethodName) ∈ xTb := tb 555 (by decide +kernel) rfl
theorem tw556 : Cond.instanceMethod ({ cls := "TextMorph", name := "frame", desc := "(II)I" } : MethodName) ∈ xTb := tb 556 (by decide +kernel) rfl
theorem tw557 : Cond.selects "TextMorph" ({ cls := "TextMorph", name := "frame", desc := "(II)I" } : MethodName) ({ cls := "TextMorph", name := "frame", desc := "(II)I" } : MethodName) ∈ xTb := tb 557 (by decide +kernel) rfl
theorem tw558 : Cond.code ({ cls := "TextMorph", name := "frame", desc := "(II)I" } : MethodName) prog_1_method_15_code (3 : Nat) (Option.some FieldType.int) ∈ xTb := tb 558 (by decide +kernel) rfl
theorem tw561 : Cond.methodLink "TextMorph" (185 : Nat) ({ cls := "TextMorph$Morph", name := "frameProperty", desc := "(II)I" } : MethodName) ∈ xTb := tb 561 (by decide +kernel) rfl
theorem tw562 : Cond.instanceMethod ({ cls := "TextMorph$Morph", name := "frameProperty", desc := "(II)I" } : MethodName) ∈ xTb := tb 562 (by decide +kernel) rfl
theorem tw563 : Cond.selects "TextMorph$Morph" ({ cls := "TextMorph$Morph", name := "frameProperty", desc := "(II)I" } : MethodName) ({ cls := "TextMorph$Morph", name := "frameProperty", desc := "(II)I" } : MethodName) ∈ xTb := tb 563 (by decide +kernel) rfl
theorem tw564 : Cond.code ({ cls := "TextMorph$Morph", name := "frameProperty", desc := "(II)I" } : MethodName) prog_3_method_9_code (3 : Nat) (Option.some FieldType.int) ∈ xTb := tb 564 (by decide +kernel) rfl
theorem tw565 : Cond.methodLink "TextMorph$Morph" (142 : Nat) ({ cls := "TextMorph$Morph", name := "cellsWithLetters", desc := "(I)I" } : MethodName) ∈ xTb := tb 565 (by decide +kernel) rfl
theorem tw567 : Cond.instanceMethod ({ cls := "TextMorph$Morph", name := "cellsWithLetters", desc := "(I)I" } : MethodName) ∈ xTb := tb 567 (by decide +kernel) rfl
theorem tw568 : Cond.code ({ cls := "TextMorph$Morph", name := "cellsWithLetters", desc := "(I)I" } : MethodName) prog_3_method_18_code (4 : Nat) (Option.some FieldType.int) ∈ xTb := tb 568 (by decide +kernel) rfl
theorem tw569 : Cond.methodLink "TextMorph$Morph" (145 : Nat) ({ cls := "TextMorph$Morph", name := "cellsThatDiffer", desc := "(I)I" } : MethodName) ∈ xTb := tb 569 (by decide +kernel) rfl
theorem tw571 : Cond.instanceMethod ({ cls := "TextMorph$Morph", name := "cellsThatDiffer", desc := "(I)I" } : MethodName) ∈ xTb := tb 571 (by decide +kernel) rfl
theorem tw572 : Cond.code ({ cls := "TextMorph$Morph", name := "cellsThatDiffer", desc := "(I)I" } : MethodName) prog_3_method_19_code (4 : Nat) (Option.some FieldType.int) ∈ xTb := tb 572 (by decide +kernel) rfl
theorem tw573 : Cond.methodLink "TextMorph$Morph" (148 : Nat) ({ cls := "TextMorph$Motion", name := "heldIn", desc := "(I)I" } : MethodName) ∈ xTb := tb 573 (by decide +kernel) rfl
theorem tw574 : Cond.instanceMethod ({ cls := "TextMorph$Motion", name := "heldIn", desc := "(I)I" } : MethodName) ∈ xTb := tb 574 (by decide +kernel) rfl
theorem tw575 : Cond.selects "TextMorph$Motion" ({ cls := "TextMorph$Motion", name := "heldIn", desc := "(I)I" } : MethodName) ({ cls := "TextMorph$Motion", name := "heldIn", desc := "(I)I" } : MethodName) ∈ xTb := tb 575 (by decide +kernel) rfl
theorem tw576 : Cond.code ({ cls := "TextMorph$Motion", name := "heldIn", desc := "(I)I" } : MethodName) prog_4_method_5_code (2 : Nat) (Option.some FieldType.int) ∈ xTb := tb 576 (by decide +kernel) rfl
theorem tw577 : Cond.methodLink "TextMorph$Morph" (151 : Nat) ({ cls := "TextMorph$Morph", name := "sharedCells", desc := "(I)I" } : MethodName) ∈ xTb := tb 577 (by decide +kernel) rfl
theorem tw579 : Cond.instanceMethod ({ cls := "TextMorph$Morph", name := "sharedCells", desc := "(I)I" } : MethodName) ∈ xTb := tb 579 (by decide +kernel) rfl
theorem tw580 : Cond.code ({ cls := "TextMorph$Morph", name := "sharedCells", desc := "(I)I" } : MethodName) prog_3_method_20_code (5 : Nat) (Option.some FieldType.int) ∈ xTb := tb 580 (by decide +kernel) rfl
theorem tw581 : Cond.methodLink "TextMorph$Morph" (154 : Nat) ({ cls := "TextMorph$Morph", name := "piecesLeft", desc := "(I)I" } : MethodName) ∈ xTb := tb 581 (by decide +kernel) rfl
theorem tw583 : Cond.instanceMethod ({ cls := "TextMorph$Morph", name := "piecesLeft", desc := "(I)I" } : MethodName) ∈ xTb := tb 583 (by decide +kernel) rfl
theorem tw584 : Cond.code ({ cls := "TextMorph$Morph", name := "piecesLeft", desc := "(I)I" } : MethodName) prog_3_method_21_code (4 : Nat) (Option.some FieldType.int) ∈ xTb := tb 584 (by decide +kernel) rfl
theorem tw585 : Cond.methodLink "TextMorphLaw" (57 : Nat) ({ cls := "TextMorphLaw", name := "goes", desc := "([I[I[I[I)Z" } : MethodName) ∈ xTb := tb 585 (by decide +kernel) rfl
theorem tw586 : Cond.static ({ cls := "TextMorphLaw", name := "goes", desc := "([I[I[I[I)Z" } : MethodName) ∈ xTb := tb 586 (by decide +kernel) rfl
theorem tw587 : Cond.code ({ cls := "TextMorphLaw", name := "goes", desc := "([I[I[I[I)Z" } : MethodName) method_11_code (5 : Nat) (Option.some FieldType.boolean) ∈ xTb := tb 587 (by decide +kernel) rfl
theorem tw588 : Cond.methodLink "TextMorphLaw" (61 : Nat) ({ cls := "TextMorphLaw", name := "many", desc := "(I[I[I)I" } : MethodName) ∈ xTb := tb 588 (by decide +kernel) rfl
theorem tw589 : Cond.static ({ cls := "TextMorphLaw", name := "many", desc := "(I[I[I)I" } : MethodName) ∈ xTb := tb 589 (by decide +kernel) rfl
theorem tw590 : Cond.code ({ cls := "TextMorphLaw", name := "many", desc := "(I[I[I)I" } : MethodName) method_10_code (5 : Nat) (Option.some FieldType.int) ∈ xTb := tb 590 (by decide +kernel) rfl
theorem tw591 : Cond.methodLink "TextMorphLaw" (65 : Nat) ({ cls := "TextMorphLaw", name := "move", desc := "([I[I[I[I[I[I)I" } : MethodName) ∈ xTb := tb 591 (by decide +kernel) rfl
theorem tw592 : Cond.static ({ cls := "TextMorphLaw", name := "move", desc := "([I[I[I[I[I[I)I" } : MethodName) ∈ xTb := tb 592 (by decide +kernel) rfl
theorem tw593 : Cond.code ({ cls := "TextMorphLaw", name := "move", desc := "([I[I[I[I[I[I)I" } : MethodName) method_13_code (12 : Nat) (Option.some FieldType.int) ∈ xTb := tb 593 (by decide +kernel) rfl
theorem tw594 : Cond.methodLink "TextMorphLaw" (30 : Nat) ({ cls := "TextMorphLaw", name := "next", desc := "(III)I" } : MethodName) ∈ xTb := tb 594 (by decide +kernel) rfl
theorem tw595 : Cond.static ({ cls := "TextMorphLaw", name := "next", desc := "(III)I" } : MethodName) ∈ xTb := tb 595 (by decide +kernel) rfl
theorem tw596 : Cond.code ({ cls := "TextMorphLaw", name := "next", desc := "(III)I" } : MethodName) method_12_code (6 : Nat) (Option.some FieldType.int) ∈ xTb := tb 596 (by decide +kernel) rfl
theorem tw597 : Cond.methodLink "TextMorphLaw" (69 : Nat) ({ cls := "TextMorphLaw", name := "letters", desc := "(LTextMorph;[I[I[I[I[I[I[I)Z" } : MethodName) ∈ xTb := tb 597 (by decide +kernel) rfl
theorem tw598 : Cond.static ({ cls := "TextMorphLaw", name := "letters", desc := "(LTextMorph;[I[I[I[I[I[I[I)Z" } : MethodName) ∈ xTb := tb 598 (by decide +kernel) rfl
theorem tw599 : Cond.code ({ cls := "TextMorphLaw", name := "letters", desc := "(LTextMorph;[I[I[I[I[I[I[I)Z" } : MethodName) method_17_code (11 : Nat) (Option.some FieldType.boolean) ∈ xTb := tb 599 (by decide +kernel) rfl
theorem tw600 : Cond.methodLink "TextMorphLaw" (77 : Nat) ({ cls := "TextMorph", name := "letter", desc := "(III)I" } : MethodName) ∈ xTb := tb 600 (by decide +kernel) rfl
theorem tw601 : Cond.instanceMethod ({ cls := "TextMorph", name := "letter", desc := "(III)I" } : MethodName) ∈ xTb := tb 601 (by decide +kernel) rfl
theorem tw602 : Cond.selects "TextMorph" ({ cls := "TextMorph", name := "letter", desc := "(III)I" } : MethodName) ({ cls := "TextMorph", name := "letter", desc := "(III)I" } : MethodName) ∈ xTb := tb 602 (by decide +kernel) rfl
theorem tw603 : Cond.code ({ cls := "TextMorph", name := "letter", desc := "(III)I" } : MethodName) prog_1_method_11_code (4 : Nat) (Option.some FieldType.int) ∈ xTb := tb 603 (by decide +kernel) rfl
theorem tw604 : Cond.methodLink "TextMorph" (89 : Nat) ({ cls := "TextMorph", name := "isText", desc := "(I)Z" } : MethodName) ∈ xTb := tb 604 (by decide +kernel) rfl
theorem tw605 : Cond.static ({ cls := "TextMorph", name := "isText", desc := "(I)Z" } : MethodName) ∈ xTb := tb 605 (by decide +kernel) rfl
theorem tw606 : Cond.code ({ cls := "TextMorph", name := "isText", desc := "(I)Z" } : MethodName) prog_1_method_31_code (1 : Nat) (Option.some FieldType.boolean) ∈ xTb := tb 606 (by decide +kernel) rfl
theorem tw608 : Cond.methodLink "TextMorph" (157 : Nat) ({ cls := "TextMorph$Morph", name := "letterProperty", desc := "(III)I" } : MethodName) ∈ xTb := tb 608 (by decide +kernel) rfl
theorem tw609 : Cond.instanceMethod ({ cls := "TextMorph$Morph", name := "letterProperty", desc := "(III)I" } : MethodName) ∈ xTb := tb 609 (by decide +kernel) rfl
theorem tw610 : Cond.selects "TextMorph$Morph" ({ cls := "TextMorph$Morph", name := "letterProperty", desc := "(III)I" } : MethodName) ({ cls := "TextMorph$Morph", name := "letterProperty", desc := "(III)I" } : MethodName) ∈ xTb := tb 610 (by decide +kernel) rfl
theorem tw611 : Cond.code ({ cls := "TextMorph$Morph", name := "letterProperty", desc := "(III)I" } : MethodName) prog_3_method_5_code (5 : Nat) (Option.some FieldType.int) ∈ xTb := tb 611 (by decide +kernel) rfl
theorem tw612 : Cond.methodLink "TextMorphLaw" (80 : Nat) ({ cls := "TextMorph", name := "way", desc := "(II)I" } : MethodName) ∈ xTb := tb 612 (by decide +kernel) rfl
theorem tw613 : Cond.instanceMethod ({ cls := "TextMorph", name := "way", desc := "(II)I" } : MethodName) ∈ xTb := tb 613 (by decide +kernel) rfl
theorem tw614 : Cond.selects "TextMorph" ({ cls := "TextMorph", name := "way", desc := "(II)I" } : MethodName) ({ cls := "TextMorph", name := "way", desc := "(II)I" } : MethodName) ∈ xTb := tb 614 (by decide +kernel) rfl
theorem tw615 : Cond.code ({ cls := "TextMorph", name := "way", desc := "(II)I" } : MethodName) prog_1_method_12_code (3 : Nat) (Option.some FieldType.int) ∈ xTb := tb 615 (by decide +kernel) rfl
theorem tw617 : Cond.methodLink "TextMorph" (166 : Nat) ({ cls := "TextMorph$Morph", name := "wayProperty", desc := "(II)I" } : MethodName) ∈ xTb := tb 617 (by decide +kernel) rfl
theorem tw618 : Cond.instanceMethod ({ cls := "TextMorph$Morph", name := "wayProperty", desc := "(II)I" } : MethodName) ∈ xTb := tb 618 (by decide +kernel) rfl
theorem tw619 : Cond.selects "TextMorph$Morph" ({ cls := "TextMorph$Morph", name := "wayProperty", desc := "(II)I" } : MethodName) ({ cls := "TextMorph$Morph", name := "wayProperty", desc := "(II)I" } : MethodName) ∈ xTb := tb 619 (by decide +kernel) rfl
theorem tw620 : Cond.code ({ cls := "TextMorph$Morph", name := "wayProperty", desc := "(II)I" } : MethodName) prog_3_method_6_code (3 : Nat) (Option.some FieldType.int) ∈ xTb := tb 620 (by decide +kernel) rfl
theorem tw621 : Cond.methodLink "TextMorphLaw" (73 : Nat) ({ cls := "TextMorphLaw", name := "counts", desc := "(LTextMorph;III[I[I[I[I[I[I)Z" } : MethodName) ∈ xTb := tb 621 (by decide +kernel) rfl
theorem tw622 : Cond.static ({ cls := "TextMorphLaw", name := "counts", desc := "(LTextMorph;III[I[I[I[I[I[I)Z" } : MethodName) ∈ xTb := tb 622 (by decide +kernel) rfl
theorem tw623 : Cond.code ({ cls := "TextMorphLaw", name := "counts", desc := "(LTextMorph;III[I[I[I[I[I[I)Z" } : MethodName) method_18_code (13 : Nat) (Option.some FieldType.boolean) ∈ xTb := tb 623 (by decide +kernel) rfl
theorem tw624 : Cond.methodLink "TextMorphLaw" (83 : Nat) ({ cls := "TextMorph", name := "setting", desc := "(I)I" } : MethodName) ∈ xTb := tb 624 (by decide +kernel) rfl
theorem tw625 : Cond.instanceMethod ({ cls := "TextMorph", name := "setting", desc := "(I)I" } : MethodName) ∈ xTb := tb 625 (by decide +kernel) rfl
theorem tw626 : Cond.selects "TextMorph" ({ cls := "TextMorph", name := "setting", desc := "(I)I" } : MethodName) ({ cls := "TextMorph", name := "setting", desc := "(I)I" } : MethodName) ∈ xTb := tb 626 (by decide +kernel) rfl
theorem tw627 : Cond.code ({ cls := "TextMorph", name := "setting", desc := "(I)I" } : MethodName) prog_1_method_17_code (2 : Nat) (Option.some FieldType.int) ∈ xTb := tb 627 (by decide +kernel) rfl
theorem tw628 : Cond.methodLink "TextMorph" (65 : Nat) ({ cls := "TextMorph", name := "isSetting", desc := "(I)Z" } : MethodName) ∈ xTb := tb 628 (by decide +kernel) rfl
theorem tw629 : Cond.static ({ cls := "TextMorph", name := "isSetting", desc := "(I)Z" } : MethodName) ∈ xTb := tb 629 (by decide +kernel) rfl
theorem tw630 : Cond.code ({ cls := "TextMorph", name := "isSetting", desc := "(I)Z" } : MethodName) prog_1_method_34_code (1 : Nat) (Option.some FieldType.boolean) ∈ xTb := tb 630 (by decide +kernel) rfl
theorem tw632 : Cond.methodLink "TextMorphLaw" (86 : Nat) ({ cls := "TextMorph", name := "likeness", desc := "()D" } : MethodName) ∈ xTb := tb 632 (by decide +kernel) rfl
theorem tw633 : Cond.instanceMethod ({ cls := "TextMorph", name := "likeness", desc := "()D" } : MethodName) ∈ xTb := tb 633 (by decide +kernel) rfl
theorem tw634 : Cond.selects "TextMorph" ({ cls := "TextMorph", name := "likeness", desc := "()D" } : MethodName) ({ cls := "TextMorph", name := "likeness", desc := "()D" } : MethodName) ∈ xTb := tb 634 (by decide +kernel) rfl
theorem tw635 : Cond.code ({ cls := "TextMorph", name := "likeness", desc := "()D" } : MethodName) prog_1_method_20_code (2 : Nat) (Option.some FieldType.double) ∈ xTb := tb 635 (by decide +kernel) rfl
theorem tw636 : Cond.constantDouble "TextMorphLaw" (90 : Nat) (4611686018427387904 : UInt64) ∈ xTb := tb 636 (by decide +kernel) rfl
theorem tw637 : Cond.methodLink "TextMorphLaw" (137 : Nat) ({ cls := "TextMorphLaw", name := "act", desc := "(LTextMorph;III[I[I[I[I)Z" } : MethodName) ∈ xTb := tb 637 (by decide +kernel) rfl
theorem tw638 : Cond.static ({ cls := "TextMorphLaw", name := "act", desc := "(LTextMorph;III[I[I[I[I)Z" } : MethodName) ∈ xTb := tb 638 (by decide +kernel) rfl
theorem tw639 : Cond.code ({ cls := "TextMorphLaw", name := "act", desc := "(LTextMorph;III[I[I[I[I)Z" } : MethodName) method_21_code (11 : Nat) (Option.some FieldType.boolean) ∈ xTb := tb 639 (by decide +kernel) rfl
theorem tw640 : Cond.methodLink "TextMorphLaw" (110 : Nat) ({ cls := "TextMorphLaw", name := "load", desc := "(LTextMorph;III[I[I)Z" } : MethodName) ∈ xTb := tb 640 (by decide +kernel) rfl
theorem tw641 : Cond.static ({ cls := "TextMorphLaw", name := "load", desc := "(LTextMorph;III[I[I)Z" } : MethodName) ∈ xTb := tb 641 (by decide +kernel) rfl
theorem tw642 : Cond.code ({ cls := "TextMorphLaw", name := "load", desc := "(LTextMorph;III[I[I)Z" } : MethodName) method_20_code (13 : Nat) (Option.some FieldType.boolean) ∈ xTb := tb 642 (by decide +kernel) rfl
theorem tw643 : Cond.methodLink "TextMorphLaw" (95 : Nat) ({ cls := "TextMorph", name := "clearBuffer", desc := "()I" } : MethodName) ∈ xTb := tb 643 (by decide +kernel) rfl
theorem tw644 : Cond.instanceMethod ({ cls := "TextMorph", name := "clearBuffer", desc := "()I" } : MethodName) ∈ xTb := tb 644 (by decide +kernel) rfl
theorem tw645 : Cond.selects "TextMorph" ({ cls := "TextMorph", name := "clearBuffer", desc := "()I" } : MethodName) ({ cls := "TextMorph", name := "clearBuffer", desc := "()I" } : MethodName) ∈ xTb := tb 645 (by decide +kernel) rfl
theorem tw646 : Cond.code ({ cls := "TextMorph", name := "clearBuffer", desc := "()I" } : MethodName) prog_1_method_9_code (2 : Nat) (Option.some FieldType.int) ∈ xTb := tb 646 (by decide +kernel) rfl
theorem tw647 : Cond.methodLink "TextMorphLaw" (101 : Nat) ({ cls := "TextMorph", name := "append", desc := "(I)I" } : MethodName) ∈ xTb := tb 647 (by decide +kernel) rfl
theorem tw648 : Cond.instanceMethod ({ cls := "TextMorph", name := "append", desc := "(I)I" } : MethodName) ∈ xTb := tb 648 (by decide +kernel) rfl
theorem tw649 : Cond.selects "TextMorph" ({ cls := "TextMorph", name := "append", desc := "(I)I" } : MethodName) ({ cls := "TextMorph", name := "append", desc := "(I)I" } : MethodName) ∈ xTb := tb 649 (by decide +kernel) rfl
theorem tw650 : Cond.code ({ cls := "TextMorph", name := "append", desc := "(I)I" } : MethodName) prog_1_method_8_code (2 : Nat) (Option.some FieldType.int) ∈ xTb := tb 650 (by decide +kernel) rfl
theorem tw668 : Cond.methodLink "TextMorphLaw" (104 : Nat) ({ cls := "TextMorph", name := "firstError", desc := "()I" } : MethodName) ∈ xTb := tb 668 (by decide +kernel) rfl
theorem tw669 : Cond.instanceMethod ({ cls := "TextMorph", name := "firstError", desc := "()I" } : MethodName) ∈ xTb := tb 669 (by decide +kernel) rfl
theorem tw670 : Cond.selects "TextMorph" ({ cls := "TextMorph", name := "firstError", desc := "()I" } : MethodName) ({ cls := "TextMorph", name := "firstError", desc := "()I" } : MethodName) ∈ xTb := tb 670 (by decide +kernel) rfl
theorem tw671 : Cond.code ({ cls := "TextMorph", name := "firstError", desc := "()I" } : MethodName) prog_1_method_10_code (1 : Nat) (Option.some FieldType.int) ∈ xTb := tb 671 (by decide +kernel) rfl
theorem tw672 : Cond.methodLink "TextMorph" (94 : Nat) ({ cls := "TextMorph$Buffer", name := "read", desc := "()I" } : MethodName) ∈ xTb := tb 672 (by decide +kernel) rfl
theorem tw673 : Cond.instanceMethod ({ cls := "TextMorph$Buffer", name := "read", desc := "()I" } : MethodName) ∈ xTb := tb 673 (by decide +kernel) rfl
theorem tw674 : Cond.selects "TextMorph$Buffer" ({ cls := "TextMorph$Buffer", name := "read", desc := "()I" } : MethodName) ({ cls := "TextMorph$Buffer", name := "read", desc := "()I" } : MethodName) ∈ xTb := tb 674 (by decide +kernel) rfl
theorem tw675 : Cond.code ({ cls := "TextMorph$Buffer", name := "read", desc := "()I" } : MethodName) prog_2_method_2_code (6 : Nat) (Option.some FieldType.int) ∈ xTb := tb 675 (by decide +kernel) rfl
theorem tw676 : Cond.methodLink "TextMorph$Buffer" (22 : Nat) ({ cls := "java/util/Arrays", name := "fill", desc := "([II)V" } : MethodName) ∈ xTb := tb 676 (by decide +kernel) rfl
theorem tw678 : Cond.static ({ cls := "TextMorph", name := "isLetter", desc := "(I)Z" } : MethodName) ∈ xTb := tb 678 (by decide +kernel) rfl
theorem tw679 : Cond.code ({ cls := "TextMorph", name := "isLetter", desc := "(I)Z" } : MethodName) prog_1_method_33_code (1 : Nat) (Option.some FieldType.boolean) ∈ xTb := tb 679 (by decide +kernel) rfl
theorem tw680 : Cond.methodLink "TextMorphLaw" (107 : Nat) ({ cls := "TextMorph", name := "load", desc := "(I)I" } : MethodName) ∈ xTb := tb 680 (by decide +kernel) rfl
theorem tw681 : Cond.instanceMethod ({ cls := "TextMorph", name := "load", desc := "(I)I" } : MethodName) ∈ xTb := tb 681 (by decide +kernel) rfl
theorem tw682 : Cond.selects "TextMorph" ({ cls := "TextMorph", name := "load", desc := "(I)I" } : MethodName) ({ cls := "TextMorph", name := "load", desc := "(I)I" } : MethodName) ∈ xTb := tb 682 (by decide +kernel) rfl
theorem tw683 : Cond.code ({ cls := "TextMorph", name := "load", desc := "(I)I" } : MethodName) prog_1_method_4_code (2 : Nat) (Option.some FieldType.int) ∈ xTb := tb 683 (by decide +kernel) rfl
theorem tw686 : Cond.methodLink "TextMorph" (50 : Nat) ({ cls := "TextMorph", name := "save", desc := "()V" } : MethodName) ∈ xTb := tb 686 (by decide +kernel) rfl
theorem tw688 : Cond.instanceMethod ({ cls := "TextMorph", name := "save", desc := "()V" } : MethodName) ∈ xTb := tb 688 (by decide +kernel) rfl
theorem tw689 : Cond.code ({ cls := "TextMorph", name := "save", desc := "()V" } : MethodName) prog_1_method_27_code (3 : Nat) (Option.none : Option FieldType) ∈ xTb := tb 689 (by decide +kernel) rfl
theorem tw690 : Cond.methodLink "TextMorph" (143 : Nat) ({ cls := "TextMorph$State", name := "copyFrom", desc := "(LTextMorph$State;)V" } : MethodName) ∈ xTb := tb 690 (by decide +kernel) rfl
theorem tw691 : Cond.instanceMethod ({ cls := "TextMorph$State", name := "copyFrom", desc := "(LTextMorph$State;)V" } : MethodName) ∈ xTb := tb 691 (by decide +kernel) rfl
theorem tw692 : Cond.selects "TextMorph$State" ({ cls := "TextMorph$State", name := "copyFrom", desc := "(LTextMorph$State;)V" } : MethodName) ({ cls := "TextMorph$State", name := "copyFrom", desc := "(LTextMorph$State;)V" } : MethodName) ∈ xTb := tb 692 (by decide +kernel) rfl
theorem tw693 : Cond.code ({ cls := "TextMorph$State", name := "copyFrom", desc := "(LTextMorph$State;)V" } : MethodName) prog_6_method_4_code (2 : Nat) (Option.none : Option FieldType) ∈ xTb := tb 693 (by decide +kernel) rfl
theorem tw694 : Cond.methodLink "TextMorph$State" (37 : Nat) ({ cls := "TextMorph$Text", name := "copyFrom", desc := "(LTextMorph$Text;)V" } : MethodName) ∈ xTb := tb 694 (by decide +kernel) rfl
theorem tw695 : Cond.instanceMethod ({ cls := "TextMorph$Text", name := "copyFrom", desc := "(LTextMorph$Text;)V" } : MethodName) ∈ xTb := tb 695 (by decide +kernel) rfl
theorem tw696 : Cond.selects "TextMorph$Text" ({ cls := "TextMorph$Text", name := "copyFrom", desc := "(LTextMorph$Text;)V" } : MethodName) ({ cls := "TextMorph$Text", name := "copyFrom", desc := "(LTextMorph$Text;)V" } : MethodName) ∈ xTb := tb 696 (by decide +kernel) rfl
theorem tw697 : Cond.code ({ cls := "TextMorph$Text", name := "copyFrom", desc := "(LTextMorph$Text;)V" } : MethodName) prog_7_method_4_code (2 : Nat) (Option.none : Option FieldType) ∈ xTb := tb 697 (by decide +kernel) rfl
theorem tw698 : Cond.methodLink "TextMorph$Text" (28 : Nat) ({ cls := "java/lang/System", name := "arraycopy", desc := "(Ljava/lang/Object;ILjava/lang/Object;II)V" } : MethodName) ∈ xTb := tb 698 (by decide +kernel) rfl
theorem tw699 : Cond.methodLink "TextMorph" (106 : Nat) ({ cls := "TextMorph$Text", name := "takeCodes", desc := "([I)V" } : MethodName) ∈ xTb := tb 699 (by decide +kernel) rfl
theorem tw700 : Cond.instanceMethod ({ cls := "TextMorph$Text", name := "takeCodes", desc := "([I)V" } : MethodName) ∈ xTb := tb 700 (by decide +kernel) rfl
theorem tw701 : Cond.selects "TextMorph$Text" ({ cls := "TextMorph$Text", name := "takeCodes", desc := "([I)V" } : MethodName) ({ cls := "TextMorph$Text", name := "takeCodes", desc := "([I)V" } : MethodName) ∈ xTb := tb 701 (by decide +kernel) rfl
theorem tw702 : Cond.code ({ cls := "TextMorph$Text", name := "takeCodes", desc := "([I)V" } : MethodName) prog_7_method_3_code (2 : Nat) (Option.none : Option FieldType) ∈ xTb := tb 702 (by decide +kernel) rfl
theorem tw703 : Cond.methodLink "TextMorph$Text" (34 : Nat) ({ cls := "TextMorph$Text", name := "numberLetters", desc := "()V" } : MethodName) ∈ xTb := tb 703 (by decide +kernel) rfl
theorem tw705 : Cond.instanceMethod ({ cls := "TextMorph$Text", name := "numberLetters", desc := "()V" } : MethodName) ∈ xTb := tb 705 (by decide +kernel) rfl
theorem tw706 : Cond.code ({ cls := "TextMorph$Text", name := "numberLetters", desc := "()V" } : MethodName) prog_7_method_9_code (2 : Nat) (Option.none : Option FieldType) ∈ xTb := tb 706 (by decide +kernel) rfl
theorem tw707 : Cond.methodLink "TextMorphLaw" (113 : Nat) ({ cls := "TextMorph", name := "put", desc := "(IIII)I" } : MethodName) ∈ xTb := tb 707 (by decide +kernel) rfl
theorem tw708 : Cond.instanceMethod ({ cls := "TextMorph", name := "put", desc := "(IIII)I" } : MethodName) ∈ xTb := tb 708 (by decide +kernel) rfl
theorem tw709 : Cond.selects "TextMorph" ({ cls := "TextMorph", name := "put", desc := "(IIII)I" } : MethodName) ({ cls := "TextMorph", name := "put", desc := "(IIII)I" } : MethodName) ∈ xTb := tb 709 (by decide +kernel) rfl
theorem tw710 : Cond.code ({ cls := "TextMorph", name := "put", desc := "(IIII)I" } : MethodName) prog_1_method_5_code (7 : Nat) (Option.some FieldType.int) ∈ xTb := tb 710 (by decide +kernel) rfl
theorem tw712 : Cond.methodLink "TextMorph" (115 : Nat) ({ cls := "TextMorph", name := "isLetter", desc := "(I)Z" } : MethodName) ∈ xTb := tb 712 (by decide +kernel) rfl
theorem tw715 : Cond.methodLink "TextMorph" (128 : Nat) ({ cls := "TextMorph$Text", name := "write", desc := "(II)V" } : MethodName) ∈ xTb := tb 715 (by decide +kernel) rfl
theorem tw716 : Cond.instanceMethod ({ cls := "TextMorph$Text", name := "write", desc := "(II)V" } : MethodName) ∈ xTb := tb 716 (by decide +kernel) rfl
theorem tw717 : Cond.selects "TextMorph$Text" ({ cls := "TextMorph$Text", name := "write", desc := "(II)V" } : MethodName) ({ cls := "TextMorph$Text", name := "write", desc := "(II)V" } : MethodName) ∈ xTb := tb 717 (by decide +kernel) rfl
theorem tw718 : Cond.code ({ cls := "TextMorph$Text", name := "write", desc := "(II)V" } : MethodName) prog_7_method_5_code (3 : Nat) (Option.none : Option FieldType) ∈ xTb := tb 718 (by decide +kernel) rfl
theorem tw719 : Cond.methodLink "TextMorphLaw" (117 : Nat) ({ cls := "TextMorphLaw", name := "change", desc := "(III[I[I)I" } : MethodName) ∈ xTb := tb 719 (by decide +kernel) rfl
theorem tw720 : Cond.static ({ cls := "TextMorphLaw", name := "change", desc := "(III[I[I)I" } : MethodName) ∈ xTb := tb 720 (by decide +kernel) rfl
theorem tw721 : Cond.code ({ cls := "TextMorphLaw", name := "change", desc := "(III[I[I)I" } : MethodName) method_19_code (9 : Nat) (Option.some FieldType.int) ∈ xTb := tb 721 (by decide +kernel) rfl
theorem tw722 : Cond.methodLink "TextMorphLaw" (121 : Nat) ({ cls := "TextMorph", name := "swap", desc := "()I" } : MethodName) ∈ xTb := tb 722 (by decide +kernel) rfl
theorem tw723 : Cond.instanceMethod ({ cls := "TextMorph", name := "swap", desc := "()I" } : MethodName) ∈ xTb := tb 723 (by decide +kernel) rfl
theorem tw724 : Cond.selects "TextMorph" ({ cls := "TextMorph", name := "swap", desc := "()I" } : MethodName) ({ cls := "TextMorph", name := "swap", desc := "()I" } : MethodName) ∈ xTb := tb 724 (by decide +kernel) rfl
theorem tw725 : Cond.code ({ cls := "TextMorph", name := "swap", desc := "()I" } : MethodName) prog_1_method_6_code (1 : Nat) (Option.some FieldType.int) ∈ xTb := tb 725 (by decide +kernel) rfl
theorem tw726 : Cond.methodLink "TextMorph" (132 : Nat) ({ cls := "TextMorph$State", name := "exchangeTexts", desc := "()V" } : MethodName) ∈ xTb := tb 726 (by decide +kernel) rfl
theorem tw727 : Cond.instanceMethod ({ cls := "TextMorph$State", name := "exchangeTexts", desc := "()V" } : MethodName) ∈ xTb := tb 727 (by decide +kernel) rfl
theorem tw728 : Cond.selects "TextMorph$State" ({ cls := "TextMorph$State", name := "exchangeTexts", desc := "()V" } : MethodName) ({ cls := "TextMorph$State", name := "exchangeTexts", desc := "()V" } : MethodName) ∈ xTb := tb 728 (by decide +kernel) rfl
theorem tw729 : Cond.code ({ cls := "TextMorph$State", name := "exchangeTexts", desc := "()V" } : MethodName) prog_6_method_5_code (2 : Nat) (Option.none : Option FieldType) ∈ xTb := tb 729 (by decide +kernel) rfl
theorem tw730 : Cond.methodLink "TextMorphLaw" (124 : Nat) ({ cls := "TextMorph", name := "set", desc := "(II)I" } : MethodName) ∈ xTb := tb 730 (by decide +kernel) rfl
theorem tw731 : Cond.instanceMethod ({ cls := "TextMorph", name := "set", desc := "(II)I" } : MethodName) ∈ xTb := tb 731 (by decide +kernel) rfl
theorem tw732 : Cond.selects "TextMorph" ({ cls := "TextMorph", name := "set", desc := "(II)I" } : MethodName) ({ cls := "TextMorph", name := "set", desc := "(II)I" } : MethodName) ∈ xTb := tb 732 (by decide +kernel) rfl
theorem tw733 : Cond.code ({ cls := "TextMorph", name := "set", desc := "(II)I" } : MethodName) prog_1_method_3_code (4 : Nat) (Option.some FieldType.int) ∈ xTb := tb 733 (by decide +kernel) rfl
theorem tw734 : Cond.methodLink "TextMorph" (76 : Nat) ({ cls := "TextMorph", name := "isValue", desc := "(II)Z" } : MethodName) ∈ xTb := tb 734 (by decide +kernel) rfl
theorem tw735 : Cond.static ({ cls := "TextMorph", name := "isValue", desc := "(II)Z" } : MethodName) ∈ xTb := tb 735 (by decide +kernel) rfl
theorem tw736 : Cond.code ({ cls := "TextMorph", name := "isValue", desc := "(II)Z" } : MethodName) prog_1_method_35_code (2 : Nat) (Option.some FieldType.boolean) ∈ xTb := tb 736 (by decide +kernel) rfl
theorem tw737 : Cond.fieldLink "TextMorph" (252 : Nat) "TextMorph" "LEAST_VALUE" "[I" ∈ xTb := tb 737 (by decide +kernel) rfl
theorem tw739 : Cond.fieldLink "TextMorph" (255 : Nat) "TextMorph" "MOST_VALUE" "[I" ∈ xTb := tb 739 (by decide +kernel) rfl
theorem tw742 : Cond.constant "TextMorphLaw" (136 : Nat) (2147483647 : Int32) ∈ xTb := tb 742 (by decide +kernel) rfl
