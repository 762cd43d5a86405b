def okA (h : AH) (a c : Nat) : Prop := (hkd h a).1 = c + 4
def okP (h : AH) (a c : Nat) : Prop := (hkd h a).1 = c + 4 ∧ hlo h ≤ a
def okI (h : AH) (a : Nat) (i : Int) : Prop := ∃ n : Nat, hkd h a = (1, n) ∧ 0 ≤ i ∧ i < (n : Int)
def okJ (h : AH) (a : Nat) (i : Int) : Prop := ∃ n : Nat, hkd h a = (2, n) ∧ 0 ≤ i ∧ i < (n : Int)
def okQ (h : AH) (a : Nat) (i : Int) : Prop := ∃ n : Nat, hkd h a = (3, n) ∧ 0 ≤ i ∧ i < (n : Int)
def okW (h : AH) (a : Nat) (i : Int) : Prop := ∃ n : Nat, hkd h a = (1, n) ∧ 0 ≤ i ∧ i < (n : Int) ∧ hlo h ≤ a
def okV (h : AH) (a : Nat) (i : Int) : Prop := ∃ n : Nat, hkd h a = (2, n) ∧ 0 ≤ i ∧ i < (n : Int) ∧ hlo h ≤ a
def okU (h : AH) (a : Nat) (i : Int) : Prop := ∃ n : Nat, hkd h a = (3, n) ∧ 0 ≤ i ∧ i < (n : Int) ∧ hlo h ≤ a
def okC (h : AH) (a : Nat) (sp : Int) (b : Nat) (dp n : Int) : Prop := ∃ na nb : Nat, hkd h a = (1, na) ∧ (hkd h b = (1, nb) ∧ hlo h ≤ b) ∧ 0 ≤ sp ∧ 0 ≤ dp ∧ 0 ≤ n ∧ sp + n ≤ (na : Int) ∧ dp + n ≤ (nb : Int)
theorem jn_out {α : Type} {K : α} {B : α → Prop} (h : jn K B) : ∃ k, k = K ∧ B k := ⟨K, rfl, h⟩
section AWN
variable {G : GG} {p : Program} {l : Launch} {e : Env} {R : Room} {s : State} {m : MethodId} {args : Array Value} {below : List Frame} {meth : Method} {c : Code} {bc bs : Nat} {Qf : State → Prop} {cc : ByteArray} {own : String}
variable {pc : Nat} {env : Nat → Option AV} {st : List AV} {h : AH}
theorem aw_nmI {x : Int} (k : ∀ y : Int, y = x → AW G p l e R s m args below meth c bc bs Qf pc env (vI y :: st) h) : AW G p l e R s m args below meth c bc bs Qf pc env (vI x :: st) h := k x rfl
theorem aw_nmR {x : Nat} (k : ∀ y : Nat, y = x → AW G p l e R s m args below meth c bc bs Qf pc env (vR y :: st) h) : AW G p l e R s m args below meth c bc bs Qf pc env (vR x :: st) h := k x rfl
theorem aw_nmL {x : Int64} (k : ∀ y : Int64, y = x → AW G p l e R s m args below meth c bc bs Qf pc env (vL y :: st) h) : AW G p l e R s m args below meth c bc bs Qf pc env (vL x :: st) h := k x rfl
theorem aw_nmD {x : UInt64} (k : ∀ y : UInt64, y = x → AW G p l e R s m args below meth c bc bs Qf pc env (vD y :: st) h) : AW G p l e R s m args below meth c bc bs Qf pc env (vD x :: st) h := k x rfl
theorem aw_nmH (k : ∀ h' : AH, h' = h → AW G p l e R s m args below meth c bc bs Qf pc env st h') : AW G p l e R s m args below meth c bc bs Qf pc env st h := k h rfl
theorem aw_iincN (C : CF G p s m args meth c cc own) {i : Nat} {n k x : Int} (hdg : decode cc pc = .ok (.iinc i n, 3)) (hk : (Int32.ofInt n).toInt = k) (hl : env i = some (vI x)) (hn : i < c.maxLocals) (hr : inR (x + k)) (kk : ∀ y : Int, y = x + k → AW G p l e R s m args below meth c bc bs Qf (pc + 3) (es env i (vI y)) st h) : AW G p l e R s m args below meth c bc bs Qf pc env st h := aw_iinc C hdg hk hl hn hr (kk _ rfl)
end AWN
theorem tw1 : Cond.initialized "TextMorph" ∈ xTb := tb 1 (by decide +kernel) rfl
theorem tw2 : Cond.initialized "TextMorph$State" ∈ xTb := tb 2 (by decide +kernel) rfl
theorem tw3 : Cond.initialized "TextMorph$Text" ∈ xTb := tb 3 (by decide +kernel) rfl
theorem tw4 : Cond.initialized "java/util/Arrays" ∈ xTb := tb 4 (by decide +kernel) rfl
theorem tw7 : Cond.initialized "TextMorph$Pairs" ∈ xTb := tb 7 (by decide +kernel) rfl
theorem tw10 : Cond.initialized "TextMorphModel" ∈ xTb := tb 10 (by decide +kernel) rfl
theorem tw17 : Cond.initialized "java/lang/Math" ∈ xTb := tb 17 (by decide +kernel) rfl
theorem tw40 : Cond.methodLink "TextMorph$Text" (22 : Nat) ({ cls := "java/util/Arrays", name := "fill", desc := "([II)V" } : MethodName) ∈ xTb := tb 40 (by decide +kernel) rfl
theorem tw41 : Cond.static ({ cls := "java/util/Arrays", name := "fill", desc := "([II)V" } : MethodName) ∈ xTb := tb 41 (by decide +kernel) rfl
theorem tw42 : Cond.code ({ cls := "java/util/Arrays", name := "fill", desc := "([II)V" } : MethodName) prog_21_method_103_code (4 : Nat) (Option.none : Option FieldType) ∈ xTb := tb 42 (by decide +kernel) rfl
theorem tw43 : Cond.fieldLink "TextMorph$Text" (9 : Nat) "TextMorph$Text" "codes" "[I" ∈ xTb := tb 43 (by decide +kernel) rfl
theorem tw45 : Cond.fieldLink "TextMorph$Text" (15 : Nat) "TextMorph$Text" "cells" "[I" ∈ xTb := tb 45 (by decide +kernel) rfl
theorem tw48 : Cond.fieldLink "TextMorph$Text" (18 : Nat) "TextMorph$Text" "letters" "I" ∈ xTb := tb 48 (by decide +kernel) rfl
theorem tw51 : Cond.fieldLink "TextMorph$Pairs" (73 : Nat) "TextMorph$Text" "letters" "I" ∈ xTb := tb 51 (by decide +kernel) rfl
theorem tw68 : Cond.fieldLink "TextMorph$Pairs" (40 : Nat) "TextMorph$State" "settings" "[I" ∈ xTb := tb 68 (by decide +kernel) rfl
theorem tw71 : Cond.fieldLink "TextMorph$State" (18 : Nat) "TextMorph$State" "first" "LTextMorph$Text;" ∈ xTb := tb 71 (by decide +kernel) rfl
theorem tw72 : Cond.fieldLink "TextMorph$State" (22 : Nat) "TextMorph$State" "second" "LTextMorph$Text;" ∈ xTb := tb 72 (by decide +kernel) rfl
theorem tw92 : Cond.fieldLink "TextMorph$Pairs" (9 : Nat) "TextMorph$Pairs" "partnerOfFirst" "[I" ∈ xTb := tb 92 (by decide +kernel) rfl
theorem tw93 : Cond.fieldLink "TextMorph$Morph" (95 : Nat) "TextMorph$Pairs" "partnerOfFirst" "[I" ∈ xTb := tb 93 (by decide +kernel) rfl
theorem tw95 : Cond.fieldLink "TextMorph$Pairs" (15 : Nat) "TextMorph$Pairs" "partnerOfSecond" "[I" ∈ xTb := tb 95 (by decide +kernel) rfl
theorem tw96 : Cond.fieldLink "TextMorph$Morph" (98 : Nat) "TextMorph$Pairs" "partnerOfSecond" "[I" ∈ xTb := tb 96 (by decide +kernel) rfl
theorem tw97 : Cond.fieldLink "TextMorph$Pairs" (18 : Nat) "TextMorph$Pairs" "kindOfFirst" "[I" ∈ xTb := tb 97 (by decide +kernel) rfl
theorem tw98 : Cond.fieldLink "TextMorph$Morph" (74 : Nat) "TextMorph$Pairs" "kindOfFirst" "[I" ∈ xTb := tb 98 (by decide +kernel) rfl
theorem tw99 : Cond.fieldLink "TextMorph$Pairs" (21 : Nat) "TextMorph$Pairs" "kindOfSecond" "[I" ∈ xTb := tb 99 (by decide +kernel) rfl
theorem tw100 : Cond.fieldLink "TextMorph$Morph" (80 : Nat) "TextMorph$Pairs" "kindOfSecond" "[I" ∈ xTb := tb 100 (by decide +kernel) rfl
theorem tw101 : Cond.fieldLink "TextMorph$Pairs" (24 : Nat) "TextMorph$Pairs" "ofKind" "[I" ∈ xTb := tb 101 (by decide +kernel) rfl
theorem tw105 : Cond.fieldLink "TextMorph$Pairs" (30 : Nat) "TextMorph$Pairs" "state" "LTextMorph$State;" ∈ xTb := tb 105 (by decide +kernel) rfl
theorem tw173 : Cond.fieldLink "TextMorph$Morph" (40 : Nat) "TextMorph$Morph" "pairs" "LTextMorph$Pairs;" ∈ xTb := tb 173 (by decide +kernel) rfl
theorem tw177 : Cond.fieldLink "TextMorph$Morph" (31 : Nat) "TextMorph$Morph" "state" "LTextMorph$State;" ∈ xTb := tb 177 (by decide +kernel) rfl
theorem tw210 : Cond.fieldLink "TextMorph$Buffer" (9 : Nat) "TextMorph$Buffer" "signs" "[I" ∈ xTb := tb 210 (by decide +kernel) rfl
theorem tw212 : Cond.fieldLink "TextMorph$Buffer" (15 : Nat) "TextMorph$Buffer" "cells" "[I" ∈ xTb := tb 212 (by decide +kernel) rfl
theorem tw214 : Cond.fieldLink "TextMorph$Buffer" (18 : Nat) "TextMorph$Buffer" "length" "I" ∈ xTb := tb 214 (by decide +kernel) rfl
theorem tw266 : Cond.instanceMethod ({ cls := "TextMorph$State", name := "text", desc := "(I)LTextMorph$Text;" } : MethodName) ∈ xTb := tb 266 (by decide +kernel) rfl
theorem tw267 : Cond.selects "TextMorph$State" ({ cls := "TextMorph$State", name := "text", desc := "(I)LTextMorph$Text;" } : MethodName) ({ cls := "TextMorph$State", name := "text", desc := "(I)LTextMorph$Text;" } : MethodName) ∈ xTb := tb 267 (by decide +kernel) rfl
theorem tw268 : Cond.code ({ cls := "TextMorph$State", name := "text", desc := "(I)LTextMorph$Text;" } : MethodName) prog_6_method_2_code (2 : Nat) (Option.some (FieldType.object "TextMorph$Text")) ∈ xTb := tb 268 (by decide +kernel) rfl
theorem tw302 : Cond.methodLink "TextMorph$Pairs" (49 : Nat) ({ cls := "TextMorph$State", name := "text", desc := "(I)LTextMorph$Text;" } : MethodName) ∈ xTb := tb 302 (by decide +kernel) rfl
theorem tw311 : Cond.methodLink "TextMorph$Pairs" (88 : Nat) ({ cls := "TextMorph$Text", name := "codeOf", desc := "(I)I" } : MethodName) ∈ xTb := tb 311 (by decide +kernel) rfl
theorem tw312 : Cond.instanceMethod ({ cls := "TextMorph$Text", name := "codeOf", desc := "(I)I" } : MethodName) ∈ xTb := tb 312 (by decide +kernel) rfl
theorem tw313 : Cond.selects "TextMorph$Text" ({ cls := "TextMorph$Text", name := "codeOf", desc := "(I)I" } : MethodName) ({ cls := "TextMorph$Text", name := "codeOf", desc := "(I)I" } : MethodName) ∈ xTb := tb 313 (by decide +kernel) rfl
theorem tw314 : Cond.code ({ cls := "TextMorph$Text", name := "codeOf", desc := "(I)I" } : MethodName) prog_7_method_8_code (2 : Nat) (Option.some FieldType.int) ∈ xTb := tb 314 (by decide +kernel) rfl
theorem tw322 : Cond.methodLink "TextMorph$Pairs" (84 : Nat) ({ cls := "TextMorph$Pairs", name := "pair", desc := "(III)V" } : MethodName) ∈ xTb := tb 322 (by decide +kernel) rfl
theorem tw324 : Cond.instanceMethod ({ cls := "TextMorph$Pairs", name := "pair", desc := "(III)V" } : MethodName) ∈ xTb := tb 324 (by decide +kernel) rfl
theorem tw325 : Cond.code ({ cls := "TextMorph$Pairs", name := "pair", desc := "(III)V" } : MethodName) prog_5_method_5_code (4 : Nat) (Option.none : Option FieldType) ∈ xTb := tb 325 (by decide +kernel) rfl
theorem tw330 : Cond.methodLink "TextMorph$Pairs" (95 : Nat) ({ cls := "TextMorph$Pairs", name := "mayBePaired", desc := "(III)Z" } : MethodName) ∈ xTb := tb 330 (by decide +kernel) rfl
theorem tw332 : Cond.instanceMethod ({ cls := "TextMorph$Pairs", name := "mayBePaired", desc := "(III)Z" } : MethodName) ∈ xTb := tb 332 (by decide +kernel) rfl
theorem tw333 : Cond.code ({ cls := "TextMorph$Pairs", name := "mayBePaired", desc := "(III)Z" } : MethodName) prog_5_method_10_code (4 : Nat) (Option.some FieldType.boolean) ∈ xTb := tb 333 (by decide +kernel) rfl
theorem tw334 : Cond.methodLink "TextMorph$Pairs" (64 : Nat) ({ cls := "TextMorph$Text", name := "rowOf", desc := "(I)I" } : MethodName) ∈ xTb := tb 334 (by decide +kernel) rfl
theorem tw335 : Cond.instanceMethod ({ cls := "TextMorph$Text", name := "rowOf", desc := "(I)I" } : MethodName) ∈ xTb := tb 335 (by decide +kernel) rfl
theorem tw336 : Cond.selects "TextMorph$Text" ({ cls := "TextMorph$Text", name := "rowOf", desc := "(I)I" } : MethodName) ({ cls := "TextMorph$Text", name := "rowOf", desc := "(I)I" } : MethodName) ∈ xTb := tb 336 (by decide +kernel) rfl
theorem tw337 : Cond.code ({ cls := "TextMorph$Text", name := "rowOf", desc := "(I)I" } : MethodName) prog_7_method_6_code (2 : Nat) (Option.some FieldType.int) ∈ xTb := tb 337 (by decide +kernel) rfl
theorem tw338 : Cond.methodLink "TextMorph$Pairs" (99 : Nat) ({ cls := "TextMorph$Pairs", name := "distance", desc := "(II)I" } : MethodName) ∈ xTb := tb 338 (by decide +kernel) rfl
theorem tw339 : Cond.instanceMethod ({ cls := "TextMorph$Pairs", name := "distance", desc := "(II)I" } : MethodName) ∈ xTb := tb 339 (by decide +kernel) rfl
theorem tw340 : Cond.selects "TextMorph$Pairs" ({ cls := "TextMorph$Pairs", name := "distance", desc := "(II)I" } : MethodName) ({ cls := "TextMorph$Pairs", name := "distance", desc := "(II)I" } : MethodName) ∈ xTb := tb 340 (by decide +kernel) rfl
theorem tw341 : Cond.code ({ cls := "TextMorph$Pairs", name := "distance", desc := "(II)I" } : MethodName) prog_5_method_3_code (5 : Nat) (Option.some FieldType.int) ∈ xTb := tb 341 (by decide +kernel) rfl
theorem tw342 : Cond.methodLink "TextMorph$Pairs" (53 : Nat) ({ cls := "TextMorph$Text", name := "columnOf", desc := "(I)I" } : MethodName) ∈ xTb := tb 342 (by decide +kernel) rfl
theorem tw343 : Cond.instanceMethod ({ cls := "TextMorph$Text", name := "columnOf", desc := "(I)I" } : MethodName) ∈ xTb := tb 343 (by decide +kernel) rfl
theorem tw344 : Cond.selects "TextMorph$Text" ({ cls := "TextMorph$Text", name := "columnOf", desc := "(I)I" } : MethodName) ({ cls := "TextMorph$Text", name := "columnOf", desc := "(I)I" } : MethodName) ∈ xTb := tb 344 (by decide +kernel) rfl
theorem tw345 : Cond.code ({ cls := "TextMorph$Text", name := "columnOf", desc := "(I)I" } : MethodName) prog_7_method_7_code (2 : Nat) (Option.some FieldType.int) ∈ xTb := tb 345 (by decide +kernel) rfl
theorem tw346 : Cond.methodLink "TextMorph$Pairs" (59 : Nat) ({ cls := "java/lang/Math", name := "abs", desc := "(I)I" } : MethodName) ∈ xTb := tb 346 (by decide +kernel) rfl
theorem tw347 : Cond.static ({ cls := "java/lang/Math", name := "abs", desc := "(I)I" } : MethodName) ∈ xTb := tb 347 (by decide +kernel) rfl
theorem tw348 : Cond.code ({ cls := "java/lang/Math", name := "abs", desc := "(I)I" } : MethodName) prog_15_method_59_code (1 : Nat) (Option.some FieldType.int) ∈ xTb := tb 348 (by decide +kernel) rfl
theorem tw381 : Cond.methodLink "TextMorph$Morph" (65 : Nat) ({ cls := "TextMorph$State", name := "text", desc := "(I)LTextMorph$Text;" } : MethodName) ∈ xTb := tb 381 (by decide +kernel) rfl
theorem tw398 : Cond.methodLink "TextMorph$Buffer" (22 : Nat) ({ cls := "java/util/Arrays", name := "fill", desc := "([II)V" } : MethodName) ∈ xTb := tb 398 (by decide +kernel) rfl
theorem tw400 : Cond.static ({ cls := "TextMorph", name := "isLetter", desc := "(I)Z" } : MethodName) ∈ xTb := tb 400 (by decide +kernel) rfl
theorem tw401 : Cond.code ({ cls := "TextMorph", name := "isLetter", desc := "(I)Z" } : MethodName) prog_1_method_33_code (1 : Nat) (Option.some FieldType.boolean) ∈ xTb := tb 401 (by decide +kernel) rfl
theorem tw432 : Cond.methodLink "TextMorph$Morph" (111 : Nat) ({ cls := "TextMorph$Pairs", name := "distance", desc := "(II)I" } : MethodName) ∈ xTb := tb 432 (by decide +kernel) rfl
theorem tw441 : Cond.methodLink "TextMorph$Morph" (105 : Nat) ({ cls := "TextMorph$Text", name := "columnOf", desc := "(I)I" } : MethodName) ∈ xTb := tb 441 (by decide +kernel) rfl
theorem tw443 : Cond.methodLink "TextMorph$Morph" (101 : Nat) ({ cls := "TextMorph$Text", name := "rowOf", desc := "(I)I" } : MethodName) ∈ xTb := tb 443 (by decide +kernel) rfl
theorem tw456 : Cond.methodLink "TextMorph$Morph" (108 : Nat) ({ cls := "TextMorph$Text", name := "codeOf", desc := "(I)I" } : MethodName) ∈ xTb := tb 456 (by decide +kernel) rfl
theorem tw654 : Cond.methodLink "TextMorph$Text" (34 : Nat) ({ cls := "TextMorph$Text", name := "numberLetters", desc := "()V" } : MethodName) ∈ xTb := tb 654 (by decide +kernel) rfl
theorem tw656 : Cond.instanceMethod ({ cls := "TextMorph$Text", name := "numberLetters", desc := "()V" } : MethodName) ∈ xTb := tb 656 (by decide +kernel) rfl
theorem tw657 : Cond.code ({ cls := "TextMorph$Text", name := "numberLetters", desc := "()V" } : MethodName) prog_7_method_9_code (2 : Nat) (Option.none : Option FieldType) ∈ xTb := tb 657 (by decide +kernel) rfl
theorem tw793 : Cond.fieldLink "TextMorphModel" (7 : Nat) "TextMorphModel" "z" "[I" ∈ xTb := tb 793 (by decide +kernel) rfl
theorem tw798 : Cond.fieldLink "TextMorphModel" (19 : Nat) "TextMorphModel" "many" "[I" ∈ xTb := tb 798 (by decide +kernel) rfl
theorem tw799 : Cond.fieldLink "TextMorphModel" (22 : Nat) "TextMorphModel" "cellOf" "[I" ∈ xTb := tb 799 (by decide +kernel) rfl
theorem tw800 : Cond.fieldLink "TextMorphModel" (25 : Nat) "TextMorphModel" "codeOf" "[I" ∈ xTb := tb 800 (by decide +kernel) rfl
theorem tw801 : Cond.fieldLink "TextMorphModel" (28 : Nat) "TextMorphModel" "partner" "[I" ∈ xTb := tb 801 (by decide +kernel) rfl
theorem tw802 : Cond.fieldLink "TextMorphModel" (31 : Nat) "TextMorphModel" "kindOf" "[I" ∈ xTb := tb 802 (by decide +kernel) rfl
theorem tw883 : Cond.methodLink "TextMorphModel" (65 : Nat) ({ cls := "TextMorphModel", name := "within", desc := "(III)Z" } : MethodName) ∈ xTb := tb 883 (by decide +kernel) rfl
theorem tw884 : Cond.static ({ cls := "TextMorphModel", name := "within", desc := "(III)Z" } : MethodName) ∈ xTb := tb 884 (by decide +kernel) rfl
theorem tw885 : Cond.code ({ cls := "TextMorphModel", name := "within", desc := "(III)Z" } : MethodName) prog_9_method_3_code (3 : Nat) (Option.some FieldType.boolean) ∈ xTb := tb 885 (by decide +kernel) rfl
theorem tw922 : Cond.methodLink "TextMorphModel" (76 : Nat) ({ cls := "TextMorphModel", name := "areEqual", desc := "(II)Z" } : MethodName) ∈ xTb := tb 922 (by decide +kernel) rfl
theorem tw924 : Cond.instanceMethod ({ cls := "TextMorphModel", name := "areEqual", desc := "(II)Z" } : MethodName) ∈ xTb := tb 924 (by decide +kernel) rfl
theorem tw925 : Cond.code ({ cls := "TextMorphModel", name := "areEqual", desc := "(II)Z" } : MethodName) prog_9_method_12_code (3 : Nat) (Option.some FieldType.boolean) ∈ xTb := tb 925 (by decide +kernel) rfl
theorem tw926 : Cond.methodLink "TextMorphModel" (80 : Nat) ({ cls := "TextMorphModel", name := "pair", desc := "(III)V" } : MethodName) ∈ xTb := tb 926 (by decide +kernel) rfl
theorem tw928 : Cond.instanceMethod ({ cls := "TextMorphModel", name := "pair", desc := "(III)V" } : MethodName) ∈ xTb := tb 928 (by decide +kernel) rfl
theorem tw929 : Cond.code ({ cls := "TextMorphModel", name := "pair", desc := "(III)V" } : MethodName) prog_9_method_9_code (4 : Nat) (Option.none : Option FieldType) ∈ xTb := tb 929 (by decide +kernel) rfl
theorem tw934 : Cond.methodLink "TextMorphModel" (88 : Nat) ({ cls := "TextMorphModel", name := "canPair", desc := "(III)Z" } : MethodName) ∈ xTb := tb 934 (by decide +kernel) rfl
theorem tw936 : Cond.instanceMethod ({ cls := "TextMorphModel", name := "canPair", desc := "(III)Z" } : MethodName) ∈ xTb := tb 936 (by decide +kernel) rfl
theorem tw937 : Cond.code ({ cls := "TextMorphModel", name := "canPair", desc := "(III)Z" } : MethodName) prog_9_method_14_code (7 : Nat) (Option.some FieldType.boolean) ∈ xTb := tb 937 (by decide +kernel) rfl
theorem tw938 : Cond.methodLink "TextMorphModel" (84 : Nat) ({ cls := "TextMorphModel", name := "distance", desc := "(II)I" } : MethodName) ∈ xTb := tb 938 (by decide +kernel) rfl
theorem tw940 : Cond.instanceMethod ({ cls := "TextMorphModel", name := "distance", desc := "(II)I" } : MethodName) ∈ xTb := tb 940 (by decide +kernel) rfl
theorem tw941 : Cond.code ({ cls := "TextMorphModel", name := "distance", desc := "(II)I" } : MethodName) prog_9_method_11_code (5 : Nat) (Option.some FieldType.int) ∈ xTb := tb 941 (by decide +kernel) rfl
theorem tw942 : Cond.methodLink "TextMorphModel" (69 : Nat) ({ cls := "TextMorphModel", name := "size", desc := "(I)I" } : MethodName) ∈ xTb := tb 942 (by decide +kernel) rfl
theorem tw943 : Cond.static ({ cls := "TextMorphModel", name := "size", desc := "(I)I" } : MethodName) ∈ xTb := tb 943 (by decide +kernel) rfl
theorem tw944 : Cond.code ({ cls := "TextMorphModel", name := "size", desc := "(I)I" } : MethodName) prog_9_method_10_code (1 : Nat) (Option.some FieldType.int) ∈ xTb := tb 944 (by decide +kernel) rfl
theorem tw945 : Cond.methodLink "TextMorphModel" (73 : Nat) ({ cls := "TextMorphModel", name := "of", desc := "(I)I" } : MethodName) ∈ xTb := tb 945 (by decide +kernel) rfl
theorem tw947 : Cond.instanceMethod ({ cls := "TextMorphModel", name := "of", desc := "(I)I" } : MethodName) ∈ xTb := tb 947 (by decide +kernel) rfl
theorem tw948 : Cond.code ({ cls := "TextMorphModel", name := "of", desc := "(I)I" } : MethodName) prog_9_method_5_code (2 : Nat) (Option.some FieldType.int) ∈ xTb := tb 948 (by decide +kernel) rfl
