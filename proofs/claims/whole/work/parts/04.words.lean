def isNest : Cond → Bool
  | .methodLinkNest .. => true
  | .fieldLinkNest .. => true
  | .castable .. => true
  | .declares _ => true
  | _ => false
/-- the words that every method has: all good ones of the tables -/
def LA : List Cond := lw_tbl.filter goodWord
/-- the words of the tables that a state carries -/
def LN : List Cond := lw_tbl.filter isNest
theorem LA_of {w : Cond} (h : w ∈ lw_tbl) (g : goodWord w = true) : w ∈ LA := List.mem_filter.mpr ⟨h, g⟩
theorem LA_t {w : Cond} (h : w ∈ tables_1) (g : goodWord w = true) : w ∈ LA := LA_of (List.mem_append_right _ h) g
theorem LN_t {w : Cond} (h : w ∈ tables_1) (g : isNest w = true) : w ∈ LN := List.mem_filter.mpr ⟨List.mem_append_right _ h, g⟩
theorem LA_g : ∀ w ∈ LA, goodWord w = true := fun _ h => (List.mem_filter.mp h).2
theorem LA_tbl : ∀ w ∈ LA, w ∈ lw_tbl := fun _ h => (List.mem_filter.mp h).1
theorem LA_sel {q : MethodName × Nat} (h : q ∈ lw_privs) : Cond.selects q.1.cls q.1 q.1 ∈ LA := LA_of (List.mem_append_left _ (by unfold k2_sels; exact List.mem_map.mpr ⟨q, h, rfl⟩)) rfl

theorem LT1 {w : Cond} (h : w ∈ tables_1_1) : w ∈ tables_1 := List.mem_append_left _ h
theorem LT2 {w : Cond} (h : w ∈ tables_1_2) : w ∈ tables_1 := List.mem_append_right _ (List.mem_append_left _ h)
theorem LT3 {w : Cond} (h : w ∈ tables_1_3) : w ∈ tables_1 := List.mem_append_right _ (List.mem_append_right _ (List.mem_append_left _ h))
theorem LT4 {w : Cond} (h : w ∈ tables_1_4) : w ∈ tables_1 := List.mem_append_right _ (List.mem_append_right _ (List.mem_append_right _ (List.mem_append_left _ h)))
theorem LT5 {w : Cond} (h : w ∈ tables_1_5) : w ∈ tables_1 := List.mem_append_right _ (List.mem_append_right _ (List.mem_append_right _ (List.mem_append_right _ (List.mem_append_left _ h))))
theorem LT6 {w : Cond} (h : w ∈ tables_1_6) : w ∈ tables_1 := List.mem_append_right _ (List.mem_append_right _ (List.mem_append_right _ (List.mem_append_right _ (List.mem_append_right _ (h)))))
set_option maxRecDepth 100000 in
theorem qw0 : (Cond.initialized RL) ∈ LA := LA_t (LT1 (List.mem_of_getElem? (i := 0) rfl)) rfl
set_option maxRecDepth 100000 in
theorem qw1 : (Cond.initialized RX4) ∈ LA := LA_t (LT1 (List.mem_of_getElem? (i := 1) rfl)) rfl
set_option maxRecDepth 100000 in
theorem qw2 : (Cond.initialized RJxa1e45) ∈ LA := LA_t (LT1 (List.mem_of_getElem? (i := 2) rfl)) rfl
set_option maxRecDepth 100000 in
theorem qw3 : (Cond.initialized RJxc12de) ∈ LA := LA_t (LT1 (List.mem_of_getElem? (i := 3) rfl)) rfl
set_option maxRecDepth 100000 in
theorem qw4 : (Cond.initialized RJx4a65c) ∈ LA := LA_t (LT1 (List.mem_of_getElem? (i := 4) rfl)) rfl
set_option maxRecDepth 100000 in
theorem qw5 : (Cond.initialized RX0) ∈ LA := LA_t (LT1 (List.mem_of_getElem? (i := 5) rfl)) rfl
set_option maxRecDepth 100000 in
theorem qw6 : (Cond.initialized RX2) ∈ LA := LA_t (LT1 (List.mem_of_getElem? (i := 6) rfl)) rfl
set_option maxRecDepth 100000 in
theorem qw7 : (Cond.initialized RX6) ∈ LA := LA_t (LT1 (List.mem_of_getElem? (i := 7) rfl)) rfl
set_option maxRecDepth 100000 in
theorem qw8 : (Cond.initialized RX1) ∈ LA := LA_t (LT1 (List.mem_of_getElem? (i := 8) rfl)) rfl
set_option maxRecDepth 100000 in
theorem qw9 : (Cond.initialized RX5) ∈ LA := LA_t (LT1 (List.mem_of_getElem? (i := 9) rfl)) rfl
set_option maxRecDepth 100000 in
theorem qw10 : (Cond.initialized "java/lang/Throwable") ∈ LA := LA_t (LT1 (List.mem_of_getElem? (i := 10) rfl)) rfl
set_option maxRecDepth 100000 in
theorem qw11 : (Cond.initialized "java/lang/Exception") ∈ LA := LA_t (LT1 (List.mem_of_getElem? (i := 11) rfl)) rfl
set_option maxRecDepth 100000 in
theorem qw12 : (Cond.initialized "java/lang/RuntimeException") ∈ LA := LA_t (LT1 (List.mem_of_getElem? (i := 12) rfl)) rfl
set_option maxRecDepth 100000 in
theorem qw13 : (Cond.initialized "java/lang/IllegalArgumentException") ∈ LA := LA_t (LT1 (List.mem_of_getElem? (i := 13) rfl)) rfl
set_option maxRecDepth 100000 in
theorem qw14 : (Cond.initialized RJ15) ∈ LA := LA_t (LT1 (List.mem_of_getElem? (i := 14) rfl)) rfl
set_option maxRecDepth 100000 in
theorem qw15 : (Cond.initialized RJ3) ∈ LA := LA_t (LT1 (List.mem_of_getElem? (i := 15) rfl)) rfl
set_option maxRecDepth 100000 in
theorem qw16 : (Cond.initialized RJ10) ∈ LA := LA_t (LT1 (List.mem_of_getElem? (i := 16) rfl)) rfl
set_option maxRecDepth 100000 in
theorem qw17 : (Cond.initialized RJ8) ∈ LA := LA_t (LT1 (List.mem_of_getElem? (i := 17) rfl)) rfl
set_option maxRecDepth 100000 in
theorem qw18 : (Cond.initialized RJ9) ∈ LA := LA_t (LT1 (List.mem_of_getElem? (i := 18) rfl)) rfl
set_option maxRecDepth 100000 in
theorem qw19 : (Cond.initialized RJ7) ∈ LA := LA_t (LT1 (List.mem_of_getElem? (i := 19) rfl)) rfl
set_option maxRecDepth 100000 in
theorem qw20 : (Cond.initialized "java/lang/IndexOutOfBoundsException") ∈ LA := LA_t (LT1 (List.mem_of_getElem? (i := 20) rfl)) rfl
set_option maxRecDepth 100000 in
theorem qw21 : (Cond.initialized "java/lang/IllegalStateException") ∈ LA := LA_t (LT1 (List.mem_of_getElem? (i := 21) rfl)) rfl
set_option maxRecDepth 100000 in
theorem qw22 : (Cond.initialized RJxd2413) ∈ LA := LA_t (LT1 (List.mem_of_getElem? (i := 22) rfl)) rfl
set_option maxRecDepth 100000 in
theorem qw23 : (Cond.initialized RJ13) ∈ LA := LA_t (LT1 (List.mem_of_getElem? (i := 23) rfl)) rfl
set_option maxRecDepth 100000 in
theorem qw24 : (Cond.initialized RJ6) ∈ LA := LA_t (LT1 (List.mem_of_getElem? (i := 24) rfl)) rfl
set_option maxRecDepth 100000 in
theorem qw25 : (Cond.initialized RX3) ∈ LA := LA_t (LT1 (List.mem_of_getElem? (i := 25) rfl)) rfl
set_option maxRecDepth 100000 in
theorem qw26 : (Cond.initialized RJxe99ae) ∈ LA := LA_t (LT1 (List.mem_of_getElem? (i := 26) rfl)) rfl
set_option maxRecDepth 100000 in
theorem qw27 : (Cond.classLink RL 8 RX4) ∈ LA := LA_t (LT1 (List.mem_of_getElem? (i := 27) rfl)) rfl
set_option maxRecDepth 100000 in
theorem qw28 : (Cond.instantiable RX4 5) ∈ LA := LA_t (LT1 (List.mem_of_getElem? (i := 28) rfl)) rfl
set_option maxRecDepth 100000 in
theorem qw29 : (Cond.methodLink RL 80 yX4_init) ∈ LA := LA_t (LT1 (List.mem_of_getElem? (i := 29) rfl)) rfl
set_option maxRecDepth 100000 in
theorem qw30 : (Cond.instanceMethod yX4_init) ∈ LA := LA_t (LT1 (List.mem_of_getElem? (i := 30) rfl)) rfl
set_option maxRecDepth 100000 in
theorem qw31 : (Cond.code yX4_init cX4_init 1 none) ∈ LA := LA_t (LT1 (List.mem_of_getElem? (i := 31) rfl)) rfl
set_option maxRecDepth 100000 in
theorem qw32 : (Cond.methodLink RX4 3 objectInit) ∈ LA := LA_t (LT1 (List.mem_of_getElem? (i := 32) rfl)) rfl
set_option maxRecDepth 100000 in
theorem qw33 : (Cond.instanceMethod objectInit) ∈ LA := LA_t (LT1 (List.mem_of_getElem? (i := 33) rfl)) rfl
set_option maxRecDepth 100000 in
theorem qw34 : (Cond.code objectInit object_method_1_code 1 none) ∈ LA := LA_t (LT1 (List.mem_of_getElem? (i := 34) rfl)) rfl
set_option maxRecDepth 100000 in
theorem qw35 : (Cond.classLink RX4 9 RJx4a65c) ∈ LA := LA_t (LT1 (List.mem_of_getElem? (i := 35) rfl)) rfl
set_option maxRecDepth 100000 in
theorem qw36 : (Cond.instantiable RJx4a65c 3) ∈ LA := LA_t (LT1 (List.mem_of_getElem? (i := 36) rfl)) rfl
set_option maxRecDepth 100000 in
theorem qw37 : (Cond.methodLink RX4 11 yJx4a65c_init_da8c8) ∈ LA := LA_t (LT1 (List.mem_of_getElem? (i := 37) rfl)) rfl
set_option maxRecDepth 100000 in
theorem qw38 : (Cond.instanceMethod yJx4a65c_init_da8c8) ∈ LA := LA_t (LT1 (List.mem_of_getElem? (i := 38) rfl)) rfl
set_option maxRecDepth 100000 in
theorem qw39 : (Cond.code yJx4a65c_init_da8c8 cJx4a65c_init_da8c8 1 none) ∈ LA := LA_t (LT1 (List.mem_of_getElem? (i := 39) rfl)) rfl
set_option maxRecDepth 100000 in
theorem qw40 : (Cond.methodLink RJx4a65c 1 yJxc12de_init_da8c8) ∈ LA := LA_t (LT1 (List.mem_of_getElem? (i := 40) rfl)) rfl
set_option maxRecDepth 100000 in
theorem qw41 : (Cond.instanceMethod yJxc12de_init_da8c8) ∈ LA := LA_t (LT1 (List.mem_of_getElem? (i := 41) rfl)) rfl
set_option maxRecDepth 100000 in
theorem qw42 : (Cond.code yJxc12de_init_da8c8 cJxc12de_init_da8c8 1 none) ∈ LA := LA_t (LT1 (List.mem_of_getElem? (i := 42) rfl)) rfl
set_option maxRecDepth 100000 in
theorem qw43 : (Cond.methodLink RJxc12de 1 yJxa1e45_init_da8c8) ∈ LA := LA_t (LT1 (List.mem_of_getElem? (i := 43) rfl)) rfl
set_option maxRecDepth 100000 in
theorem qw44 : (Cond.instanceMethod yJxa1e45_init_da8c8) ∈ LA := LA_t (LT1 (List.mem_of_getElem? (i := 44) rfl)) rfl
set_option maxRecDepth 100000 in
theorem qw45 : (Cond.code yJxa1e45_init_da8c8 cJxa1e45_init_da8c8 1 none) ∈ LA := LA_t (LT1 (List.mem_of_getElem? (i := 45) rfl)) rfl
set_option maxRecDepth 100000 in
theorem qw46 : (Cond.methodLink RJxa1e45 1 objectInit) ∈ LA := LA_t (LT1 (List.mem_of_getElem? (i := 46) rfl)) rfl
set_option maxRecDepth 100000 in
theorem qw47 : (Cond.fieldLink RJx4a65c 39 "java/util/ArrayList" "DEFAULTCAPACITY_EMPTY_ELEMENTDATA" "[Ljava/lang/Object;") ∈ LA := LA_t (LT1 (List.mem_of_getElem? (i := 47) rfl)) rfl
set_option maxRecDepth 100000 in
theorem qw49 : (Cond.fieldLink RJx4a65c 9 "java/util/ArrayList" "elementData" "[Ljava/lang/Object;") ∈ LA := LA_t (LT1 (List.mem_of_getElem? (i := 49) rfl)) rfl
set_option maxRecDepth 100000 in
theorem qw50 : (Cond.fieldLink RJx4a65c 48 "java/util/ArrayList" "size" "I") ∈ LA := LA_t (LT1 (List.mem_of_getElem? (i := 50) rfl)) rfl
set_option maxRecDepth 100000 in
theorem qw51 : (Cond.fieldLink RJxc12de 7 "java/util/AbstractList" "modCount" "I") ∈ LA := LA_t (LT1 (List.mem_of_getElem? (i := 51) rfl)) rfl
set_option maxRecDepth 100000 in
theorem qw52 : (Cond.fieldLink RJx4a65c 63 "java/util/ArrayList" "modCount" "I") ∈ LA := LA_t (LT1 (List.mem_of_getElem? (i := 52) rfl)) rfl
set_option maxRecDepth 100000 in
theorem qw53 : (Cond.sameField RJx4a65c "java/util/AbstractList" "modCount" "I") ∈ LA := LA_t (LT1 (List.mem_of_getElem? (i := 53) rfl)) rfl
set_option maxRecDepth 100000 in
theorem qw54 : (Cond.lays RJx4a65c "java/util/ArrayList" "elementData" "[Ljava/lang/Object;") ∈ LA := LA_t (LT1 (List.mem_of_getElem? (i := 54) rfl)) rfl
set_option maxRecDepth 100000 in
theorem qw56 : (Cond.lays RJx4a65c "java/util/ArrayList" "size" "I") ∈ LA := LA_t (LT1 (List.mem_of_getElem? (i := 56) rfl)) rfl
set_option maxRecDepth 100000 in
theorem qw58 : (Cond.lays RJx4a65c "java/util/AbstractList" "modCount" "I") ∈ LA := LA_t (LT1 (List.mem_of_getElem? (i := 58) rfl)) rfl
set_option maxRecDepth 100000 in
theorem qw61 : (Cond.classLink RX4 16 RX1) ∈ LA := LA_t (LT1 (List.mem_of_getElem? (i := 61) rfl)) rfl
set_option maxRecDepth 100000 in
theorem qw63 : (Cond.classLink RX4 22 RX0) ∈ LA := LA_t (LT1 (List.mem_of_getElem? (i := 63) rfl)) rfl
set_option maxRecDepth 100000 in
theorem qw64 : (Cond.instantiable RX0 2) ∈ LA := LA_t (LT1 (List.mem_of_getElem? (i := 64) rfl)) rfl
set_option maxRecDepth 100000 in
theorem qw65 : (Cond.methodLinkNest RX4 24 yX0_init RX4) ∈ LN := LN_t (LT1 (List.mem_of_getElem? (i := 65) rfl)) rfl
set_option maxRecDepth 100000 in
theorem qw66 : (Cond.instanceMethod yX0_init) ∈ LA := LA_t (LT1 (List.mem_of_getElem? (i := 66) rfl)) rfl
set_option maxRecDepth 100000 in
theorem qw67 : (Cond.code yX0_init cX0_init 1 none) ∈ LA := LA_t (LT1 (List.mem_of_getElem? (i := 67) rfl)) rfl
set_option maxRecDepth 100000 in
theorem qw68 : (Cond.methodLink RX0 3 objectInit) ∈ LA := LA_t (LT1 (List.mem_of_getElem? (i := 68) rfl)) rfl
set_option maxRecDepth 100000 in
theorem qw69 : (Cond.fieldLink RX0 9 "BentGardens$Buffer" "length" "I") ∈ LA := LA_t (LT1 (List.mem_of_getElem? (i := 69) rfl)) rfl
set_option maxRecDepth 100000 in
theorem qw70 : (Cond.fieldLink RX4 181 "BentGardens$Buffer" "length" "I") ∈ LA := LA_t (LT1 (List.mem_of_getElem? (i := 70) rfl)) rfl
set_option maxRecDepth 100000 in
theorem qw71 : (Cond.fieldLink RX0 15 "BentGardens$Buffer" "codes" "[I") ∈ LA := LA_t (LT1 (List.mem_of_getElem? (i := 71) rfl)) rfl
set_option maxRecDepth 100000 in
theorem qw72 : (Cond.lays RX0 "BentGardens$Buffer" "length" "I") ∈ LA := LA_t (LT1 (List.mem_of_getElem? (i := 72) rfl)) rfl
set_option maxRecDepth 100000 in
theorem qw74 : (Cond.laysFinal RX0 "BentGardens$Buffer" "codes" "[I") ∈ LA := LA_t (LT1 (List.mem_of_getElem? (i := 74) rfl)) rfl
set_option maxRecDepth 100000 in
theorem qw77 : (Cond.arrayClass .int) ∈ LA := LA_t (LT1 (List.mem_of_getElem? (i := 77) rfl)) rfl
set_option maxRecDepth 100000 in
theorem qw78 : (Cond.classLink RX4 29 RX2) ∈ LA := LA_t (LT1 (List.mem_of_getElem? (i := 78) rfl)) rfl
set_option maxRecDepth 100000 in
theorem qw79 : (Cond.instantiable RX2 4) ∈ LA := LA_t (LT1 (List.mem_of_getElem? (i := 79) rfl)) rfl
set_option maxRecDepth 100000 in
theorem qw80 : (Cond.methodLinkNest RX4 31 yX2_init RX4) ∈ LN := LN_t (LT1 (List.mem_of_getElem? (i := 80) rfl)) rfl
set_option maxRecDepth 100000 in
theorem qw81 : (Cond.instanceMethod yX2_init) ∈ LA := LA_t (LT1 (List.mem_of_getElem? (i := 81) rfl)) rfl
set_option maxRecDepth 100000 in
theorem qw82 : (Cond.code yX2_init cX2_init 1 none) ∈ LA := LA_t (LT1 (List.mem_of_getElem? (i := 82) rfl)) rfl
set_option maxRecDepth 100000 in
theorem qw83 : (Cond.methodLink RX2 5 objectInit) ∈ LA := LA_t (LT1 (List.mem_of_getElem? (i := 83) rfl)) rfl
set_option maxRecDepth 100000 in
theorem qw84 : (Cond.classLink RX2 11 "[[I") ∈ LA := LA_t (LT1 (List.mem_of_getElem? (i := 84) rfl)) rfl
set_option maxRecDepth 100000 in
theorem qw86 : (Cond.classLink RX2 20 RX6) ∈ LA := LA_t (LT1 (List.mem_of_getElem? (i := 86) rfl)) rfl
set_option maxRecDepth 100000 in
theorem qw87 : (Cond.instantiable RX6 3) ∈ LA := LA_t (LT1 (List.mem_of_getElem? (i := 87) rfl)) rfl
set_option maxRecDepth 100000 in
theorem qw88 : (Cond.methodLinkNest RX2 22 yX6_init RX4) ∈ LN := LN_t (LT1 (List.mem_of_getElem? (i := 88) rfl)) rfl
set_option maxRecDepth 100000 in
theorem qw89 : (Cond.instanceMethod yX6_init) ∈ LA := LA_t (LT1 (List.mem_of_getElem? (i := 89) rfl)) rfl
set_option maxRecDepth 100000 in
theorem qw90 : (Cond.code yX6_init cX6_init 1 none) ∈ LA := LA_t (LT1 (List.mem_of_getElem? (i := 90) rfl)) rfl
set_option maxRecDepth 100000 in
theorem qw91 : (Cond.methodLink RX6 1 objectInit) ∈ LA := LA_t (LT1 (List.mem_of_getElem? (i := 91) rfl)) rfl
set_option maxRecDepth 100000 in
theorem qw92 : (Cond.fieldLink RX6 7 "BentGardens$Reached" "size" "I") ∈ LA := LA_t (LT1 (List.mem_of_getElem? (i := 92) rfl)) rfl
set_option maxRecDepth 100000 in
theorem qw93 : (Cond.fieldLink RX2 70 "BentGardens$Reached" "size" "I") ∈ LA := LA_t (LT1 (List.mem_of_getElem? (i := 93) rfl)) rfl
set_option maxRecDepth 100000 in
theorem qw94 : (Cond.fieldLink RX6 15 "BentGardens$Reached" "windows" "[I") ∈ LA := LA_t (LT1 (List.mem_of_getElem? (i := 94) rfl)) rfl
set_option maxRecDepth 100000 in
theorem qw95 : (Cond.fieldLink RX6 19 "BentGardens$Reached" "ways" "[I") ∈ LA := LA_t (LT1 (List.mem_of_getElem? (i := 95) rfl)) rfl
set_option maxRecDepth 100000 in
theorem qw96 : (Cond.lays RX6 "BentGardens$Reached" "size" "I") ∈ LA := LA_t (LT1 (List.mem_of_getElem? (i := 96) rfl)) rfl
set_option maxRecDepth 100000 in
theorem qw98 : (Cond.laysFinal RX6 "BentGardens$Reached" "windows" "[I") ∈ LA := LA_t (LT1 (List.mem_of_getElem? (i := 98) rfl)) rfl
set_option maxRecDepth 100000 in
theorem qw100 : (Cond.laysFinal RX6 "BentGardens$Reached" "ways" "[I") ∈ LA := LA_t (LT1 (List.mem_of_getElem? (i := 100) rfl)) rfl
set_option maxRecDepth 100000 in
theorem qw103 : (Cond.fieldLink RX2 13 "BentGardens$Paver" "rest" "[[I") ∈ LA := LA_t (LT1 (List.mem_of_getElem? (i := 103) rfl)) rfl
set_option maxRecDepth 100000 in
theorem qw104 : (Cond.fieldLink RX2 16 "BentGardens$Paver" "takes" "[I") ∈ LA := LA_t (LT1 (List.mem_of_getElem? (i := 104) rfl)) rfl
set_option maxRecDepth 100000 in
theorem qw105 : (Cond.fieldLink RX2 23 "BentGardens$Paver" "here" "LBentGardens$Reached;") ∈ LA := LA_t (LT1 (List.mem_of_getElem? (i := 105) rfl)) rfl
set_option maxRecDepth 100000 in
theorem qw106 : (Cond.fieldLink RX2 27 "BentGardens$Paver" "next" "LBentGardens$Reached;") ∈ LA := LA_t (LT1 (List.mem_of_getElem? (i := 106) rfl)) rfl
set_option maxRecDepth 100000 in
theorem qw107 : (Cond.laysFinal RX2 "BentGardens$Paver" "rest" "[[I") ∈ LA := LA_t (LT1 (List.mem_of_getElem? (i := 107) rfl)) rfl
set_option maxRecDepth 100000 in
theorem qw109 : (Cond.laysFinal RX2 "BentGardens$Paver" "takes" "[I") ∈ LA := LA_t (LT1 (List.mem_of_getElem? (i := 109) rfl)) rfl
set_option maxRecDepth 100000 in
theorem qw111 : (Cond.lays RX2 "BentGardens$Paver" "here" "LBentGardens$Reached;") ∈ LA := LA_t (LT1 (List.mem_of_getElem? (i := 111) rfl)) rfl
set_option maxRecDepth 100000 in
theorem qw113 : (Cond.lays RX2 "BentGardens$Paver" "next" "LBentGardens$Reached;") ∈ LA := LA_t (LT1 (List.mem_of_getElem? (i := 113) rfl)) rfl
set_option maxRecDepth 100000 in
theorem qw116 : (Cond.instantiable RX1 9) ∈ LA := LA_t (LT1 (List.mem_of_getElem? (i := 116) rfl)) rfl
set_option maxRecDepth 100000 in
theorem qw117 : (Cond.methodLinkNest RX4 36 yX1_init RX4) ∈ LN := LN_t (LT1 (List.mem_of_getElem? (i := 117) rfl)) rfl
set_option maxRecDepth 100000 in
theorem qw118 : (Cond.instanceMethod yX1_init) ∈ LA := LA_t (LT1 (List.mem_of_getElem? (i := 118) rfl)) rfl
set_option maxRecDepth 100000 in
theorem qw119 : (Cond.code yX1_init cX1_init 1 none) ∈ LA := LA_t (LT1 (List.mem_of_getElem? (i := 119) rfl)) rfl
set_option maxRecDepth 100000 in
theorem qw120 : (Cond.methodLink RX1 3 objectInit) ∈ LA := LA_t (LT1 (List.mem_of_getElem? (i := 120) rfl)) rfl
set_option maxRecDepth 100000 in
theorem qw121 : (Cond.fieldLink RX1 9 "BentGardens$Garden" "wide" "I") ∈ LA := LA_t (LT1 (List.mem_of_getElem? (i := 121) rfl)) rfl
set_option maxRecDepth 100000 in
theorem qw122 : (Cond.fieldLink RX4 258 "BentGardens$Garden" "wide" "I") ∈ LA := LA_t (LT1 (List.mem_of_getElem? (i := 122) rfl)) rfl
set_option maxRecDepth 100000 in
theorem qw123 : (Cond.fieldLink RX1 15 "BentGardens$Garden" "high" "I") ∈ LA := LA_t (LT1 (List.mem_of_getElem? (i := 123) rfl)) rfl
set_option maxRecDepth 100000 in
theorem qw124 : (Cond.fieldLink RX4 249 "BentGardens$Garden" "high" "I") ∈ LA := LA_t (LT1 (List.mem_of_getElem? (i := 124) rfl)) rfl
set_option maxRecDepth 100000 in
theorem qw125 : (Cond.fieldLink RX1 18 "BentGardens$Garden" "pondPlace" "I") ∈ LA := LA_t (LT1 (List.mem_of_getElem? (i := 125) rfl)) rfl
set_option maxRecDepth 100000 in
theorem qw126 : (Cond.fieldLink RX4 79 "BentGardens$Garden" "pondPlace" "I") ∈ LA := LA_t (LT1 (List.mem_of_getElem? (i := 126) rfl)) rfl
set_option maxRecDepth 100000 in
theorem qw127 : (Cond.fieldLink RX1 21 "BentGardens$Garden" "walls" "J") ∈ LA := LA_t (LT1 (List.mem_of_getElem? (i := 127) rfl)) rfl
set_option maxRecDepth 100000 in
theorem qw128 : (Cond.fieldLink RX4 67 "BentGardens$Garden" "walls" "J") ∈ LA := LA_t (LT1 (List.mem_of_getElem? (i := 128) rfl)) rfl
set_option maxRecDepth 100000 in
theorem qw129 : (Cond.fieldLink RX1 25 "BentGardens$Garden" "paved" "J") ∈ LA := LA_t (LT1 (List.mem_of_getElem? (i := 129) rfl)) rfl
set_option maxRecDepth 100000 in
theorem qw130 : (Cond.fieldLink RX4 71 "BentGardens$Garden" "paved" "J") ∈ LA := LA_t (LT1 (List.mem_of_getElem? (i := 130) rfl)) rfl
set_option maxRecDepth 100000 in
theorem qw131 : (Cond.fieldLink RX1 28 "BentGardens$Garden" "tripleCount" "I") ∈ LA := LA_t (LT1 (List.mem_of_getElem? (i := 131) rfl)) rfl
set_option maxRecDepth 100000 in
theorem qw132 : (Cond.fieldLink RX4 155 "BentGardens$Garden" "tripleCount" "I") ∈ LA := LA_t (LT1 (List.mem_of_getElem? (i := 132) rfl)) rfl
set_option maxRecDepth 100000 in
theorem qw133 : (Cond.fieldLink RX1 31 "BentGardens$Garden" "flips" "I") ∈ LA := LA_t (LT1 (List.mem_of_getElem? (i := 133) rfl)) rfl
set_option maxRecDepth 100000 in
theorem qw134 : (Cond.fieldLink RX4 144 "BentGardens$Garden" "flips" "I") ∈ LA := LA_t (LT1 (List.mem_of_getElem? (i := 134) rfl)) rfl
set_option maxRecDepth 100000 in
theorem qw135 : (Cond.fieldLink RX1 34 "BentGardens$Garden" "refused" "I") ∈ LA := LA_t (LT1 (List.mem_of_getElem? (i := 135) rfl)) rfl
set_option maxRecDepth 100000 in
theorem qw136 : (Cond.fieldLink RX4 115 "BentGardens$Garden" "refused" "I") ∈ LA := LA_t (LT1 (List.mem_of_getElem? (i := 136) rfl)) rfl
set_option maxRecDepth 100000 in
theorem qw137 : (Cond.fieldLink RX1 37 "BentGardens$Garden" "names" "[I") ∈ LA := LA_t (LT1 (List.mem_of_getElem? (i := 137) rfl)) rfl
set_option maxRecDepth 100000 in
theorem qw138 : (Cond.lays RX1 "BentGardens$Garden" "wide" "I") ∈ LA := LA_t (LT1 (List.mem_of_getElem? (i := 138) rfl)) rfl
set_option maxRecDepth 100000 in
theorem qw140 : (Cond.lays RX1 "BentGardens$Garden" "high" "I") ∈ LA := LA_t (LT1 (List.mem_of_getElem? (i := 140) rfl)) rfl
set_option maxRecDepth 100000 in
theorem qw142 : (Cond.lays RX1 "BentGardens$Garden" "pondPlace" "I") ∈ LA := LA_t (LT1 (List.mem_of_getElem? (i := 142) rfl)) rfl
set_option maxRecDepth 100000 in
theorem qw144 : (Cond.lays RX1 "BentGardens$Garden" "walls" "J") ∈ LA := LA_t (LT1 (List.mem_of_getElem? (i := 144) rfl)) rfl
set_option maxRecDepth 100000 in
theorem qw146 : (Cond.lays RX1 "BentGardens$Garden" "paved" "J") ∈ LA := LA_t (LT1 (List.mem_of_getElem? (i := 146) rfl)) rfl
set_option maxRecDepth 100000 in
theorem qw148 : (Cond.lays RX1 "BentGardens$Garden" "tripleCount" "I") ∈ LA := LA_t (LT1 (List.mem_of_getElem? (i := 148) rfl)) rfl
set_option maxRecDepth 100000 in
theorem qw150 : (Cond.lays RX1 "BentGardens$Garden" "flips" "I") ∈ LA := LA_t (LT1 (List.mem_of_getElem? (i := 150) rfl)) rfl
set_option maxRecDepth 100000 in
theorem qw152 : (Cond.lays RX1 "BentGardens$Garden" "refused" "I") ∈ LA := LA_t (LT1 (List.mem_of_getElem? (i := 152) rfl)) rfl
set_option maxRecDepth 100000 in
theorem qw154 : (Cond.laysFinal RX1 "BentGardens$Garden" "names" "[I") ∈ LA := LA_t (LT1 (List.mem_of_getElem? (i := 154) rfl)) rfl
set_option maxRecDepth 100000 in
theorem qw157 : (Cond.fieldLink RX4 12 "BentGardens" "saved" "Ljava/util/ArrayList;") ∈ LA := LA_t (LT1 (List.mem_of_getElem? (i := 157) rfl)) rfl
set_option maxRecDepth 100000 in
theorem qw158 : (Cond.fieldLink RX4 18 "BentGardens" "slots" "[LBentGardens$Garden;") ∈ LA := LA_t (LT1 (List.mem_of_getElem? (i := 158) rfl)) rfl
set_option maxRecDepth 100000 in
theorem qw159 : (Cond.fieldLink RX4 25 "BentGardens" "buffer" "LBentGardens$Buffer;") ∈ LA := LA_t (LT1 (List.mem_of_getElem? (i := 159) rfl)) rfl
set_option maxRecDepth 100000 in
theorem qw160 : (Cond.fieldLink RX4 32 "BentGardens" "paver" "LBentGardens$Paver;") ∈ LA := LA_t (LT1 (List.mem_of_getElem? (i := 160) rfl)) rfl
set_option maxRecDepth 100000 in
theorem qw161 : (Cond.fieldLink RX4 37 "BentGardens" "now" "LBentGardens$Garden;") ∈ LA := LA_t (LT1 (List.mem_of_getElem? (i := 161) rfl)) rfl
set_option maxRecDepth 100000 in
theorem qw162 : (Cond.laysFinal RX4 "BentGardens" "saved" "Ljava/util/ArrayList;") ∈ LA := LA_t (LT1 (List.mem_of_getElem? (i := 162) rfl)) rfl
set_option maxRecDepth 100000 in
theorem qw164 : (Cond.laysFinal RX4 "BentGardens" "slots" "[LBentGardens$Garden;") ∈ LA := LA_t (LT1 (List.mem_of_getElem? (i := 164) rfl)) rfl
set_option maxRecDepth 100000 in
theorem qw166 : (Cond.laysFinal RX4 "BentGardens" "buffer" "LBentGardens$Buffer;") ∈ LA := LA_t (LT1 (List.mem_of_getElem? (i := 166) rfl)) rfl
set_option maxRecDepth 100000 in
theorem qw168 : (Cond.laysFinal RX4 "BentGardens" "paver" "LBentGardens$Paver;") ∈ LA := LA_t (LT1 (List.mem_of_getElem? (i := 168) rfl)) rfl
set_option maxRecDepth 100000 in
theorem qw170 : (Cond.lays RX4 "BentGardens" "now" "LBentGardens$Garden;") ∈ LA := LA_t (LT1 (List.mem_of_getElem? (i := 170) rfl)) rfl
set_option maxRecDepth 100000 in
theorem qw173 : (Cond.methodLink RL 121 yX4_clearBuffer) ∈ LA := LA_t (LT1 (List.mem_of_getElem? (i := 173) rfl)) rfl
set_option maxRecDepth 100000 in
theorem qw174 : (Cond.instanceMethod yX4_clearBuffer) ∈ LA := LA_t (LT1 (List.mem_of_getElem? (i := 174) rfl)) rfl
set_option maxRecDepth 100000 in
theorem qw175 : (Cond.selects RX4 yX4_clearBuffer yX4_clearBuffer) ∈ LA := LA_t (LT1 (List.mem_of_getElem? (i := 175) rfl)) rfl
set_option maxRecDepth 100000 in
theorem qw176 : (Cond.code yX4_clearBuffer cX4_clearBuffer 2 (some .int)) ∈ LA := LA_t (LT1 (List.mem_of_getElem? (i := 176) rfl)) rfl
set_option maxRecDepth 100000 in
theorem qw177 : (Cond.methodLink RL 125 yX4_firstError) ∈ LA := LA_t (LT1 (List.mem_of_getElem? (i := 177) rfl)) rfl
set_option maxRecDepth 100000 in
theorem qw178 : (Cond.instanceMethod yX4_firstError) ∈ LA := LA_t (LT1 (List.mem_of_getElem? (i := 178) rfl)) rfl
set_option maxRecDepth 100000 in
theorem qw179 : (Cond.selects RX4 yX4_firstError yX4_firstError) ∈ LA := LA_t (LT1 (List.mem_of_getElem? (i := 179) rfl)) rfl
set_option maxRecDepth 100000 in
theorem qw180 : (Cond.code yX4_firstError cX4_firstError 1 (some .int)) ∈ LA := LA_t (LT1 (List.mem_of_getElem? (i := 180) rfl)) rfl
set_option maxRecDepth 100000 in
theorem qw181 : (Cond.classLink RX4 184 RX3) ∈ LA := LA_t (LT1 (List.mem_of_getElem? (i := 181) rfl)) rfl
set_option maxRecDepth 100000 in
theorem qw182 : (Cond.instantiable RX3 5) ∈ LA := LA_t (LT1 (List.mem_of_getElem? (i := 182) rfl)) rfl
set_option maxRecDepth 100000 in
theorem qw183 : (Cond.methodLinkNest RX4 186 yX3_init RX4) ∈ LN := LN_t (LT1 (List.mem_of_getElem? (i := 183) rfl)) rfl
set_option maxRecDepth 100000 in
theorem qw184 : (Cond.instanceMethod yX3_init) ∈ LA := LA_t (LT1 (List.mem_of_getElem? (i := 184) rfl)) rfl
set_option maxRecDepth 100000 in
theorem qw185 : (Cond.code yX3_init cX3_init 1 none) ∈ LA := LA_t (LT1 (List.mem_of_getElem? (i := 185) rfl)) rfl
set_option maxRecDepth 100000 in
theorem qw186 : (Cond.methodLink RX3 3 objectInit) ∈ LA := LA_t (LT1 (List.mem_of_getElem? (i := 186) rfl)) rfl
set_option maxRecDepth 100000 in
theorem qw187 : (Cond.fieldLink RX3 9 "BentGardens$Reader" "wide" "I") ∈ LA := LA_t (LT1 (List.mem_of_getElem? (i := 187) rfl)) rfl
set_option maxRecDepth 100000 in
theorem qw188 : (Cond.fieldLink RX4 196 "BentGardens$Reader" "wide" "I") ∈ LA := LA_t (LT1 (List.mem_of_getElem? (i := 188) rfl)) rfl
set_option maxRecDepth 100000 in
theorem qw189 : (Cond.fieldLink RX3 15 "BentGardens$Reader" "row" "I") ∈ LA := LA_t (LT1 (List.mem_of_getElem? (i := 189) rfl)) rfl
set_option maxRecDepth 100000 in
theorem qw190 : (Cond.fieldLink RX4 199 "BentGardens$Reader" "row" "I") ∈ LA := LA_t (LT1 (List.mem_of_getElem? (i := 190) rfl)) rfl
set_option maxRecDepth 100000 in
theorem qw191 : (Cond.fieldLink RX3 18 "BentGardens$Reader" "pondPlace" "I") ∈ LA := LA_t (LT1 (List.mem_of_getElem? (i := 191) rfl)) rfl
set_option maxRecDepth 100000 in
theorem qw192 : (Cond.fieldLink RX4 202 "BentGardens$Reader" "pondPlace" "I") ∈ LA := LA_t (LT1 (List.mem_of_getElem? (i := 192) rfl)) rfl
set_option maxRecDepth 100000 in
theorem qw193 : (Cond.fieldLink RX3 21 "BentGardens$Reader" "walls" "J") ∈ LA := LA_t (LT1 (List.mem_of_getElem? (i := 193) rfl)) rfl
set_option maxRecDepth 100000 in
theorem qw194 : (Cond.fieldLink RX4 203 "BentGardens$Reader" "walls" "J") ∈ LA := LA_t (LT1 (List.mem_of_getElem? (i := 194) rfl)) rfl
set_option maxRecDepth 100000 in
theorem qw195 : (Cond.fieldLink RX3 25 "BentGardens$Reader" "column" "I") ∈ LA := LA_t (LT1 (List.mem_of_getElem? (i := 195) rfl)) rfl
set_option maxRecDepth 100000 in
theorem qw196 : (Cond.lays RX3 "BentGardens$Reader" "wide" "I") ∈ LA := LA_t (LT1 (List.mem_of_getElem? (i := 196) rfl)) rfl
set_option maxRecDepth 100000 in
theorem qw198 : (Cond.lays RX3 "BentGardens$Reader" "row" "I") ∈ LA := LA_t (LT1 (List.mem_of_getElem? (i := 198) rfl)) rfl
set_option maxRecDepth 100000 in
theorem qw200 : (Cond.lays RX3 "BentGardens$Reader" "pondPlace" "I") ∈ LA := LA_t (LT1 (List.mem_of_getElem? (i := 200) rfl)) rfl
set_option maxRecDepth 100000 in
theorem qw202 : (Cond.lays RX3 "BentGardens$Reader" "walls" "J") ∈ LA := LA_t (LT1 (List.mem_of_getElem? (i := 202) rfl)) rfl
set_option maxRecDepth 100000 in
theorem qw204 : (Cond.lays RX3 "BentGardens$Reader" "column" "I") ∈ LA := LA_t (LT1 (List.mem_of_getElem? (i := 204) rfl)) rfl
set_option maxRecDepth 100000 in
theorem qw207 : (Cond.methodLink RX4 187 yX0_readInto) ∈ LA := LA_t (LT1 (List.mem_of_getElem? (i := 207) rfl)) rfl
set_option maxRecDepth 100000 in
theorem qw208 : (Cond.instanceMethod yX0_readInto) ∈ LA := LA_t (LT1 (List.mem_of_getElem? (i := 208) rfl)) rfl
set_option maxRecDepth 100000 in
theorem qw209 : (Cond.selects RX0 yX0_readInto yX0_readInto) ∈ LA := LA_t (LT1 (List.mem_of_getElem? (i := 209) rfl)) rfl
set_option maxRecDepth 100000 in
theorem qw210 : (Cond.code yX0_readInto cX0_readInto 3 (some .int)) ∈ LA := LA_t (LT1 (List.mem_of_getElem? (i := 210) rfl)) rfl
set_option maxRecDepth 100000 in
theorem qw211 : (Cond.methodLink RX0 19 yX0_codeAt) ∈ LA := LA_t (LT1 (List.mem_of_getElem? (i := 211) rfl)) rfl
set_option maxRecDepth 100000 in
theorem qw212 : (Cond.instanceMethod yX0_codeAt) ∈ LA := LA_t (LT1 (List.mem_of_getElem? (i := 212) rfl)) rfl
set_option maxRecDepth 100000 in
theorem qw213 : (Cond.selects RX0 yX0_codeAt yX0_codeAt) ∈ LA := LA_t (LT1 (List.mem_of_getElem? (i := 213) rfl)) rfl
set_option maxRecDepth 100000 in
theorem qw214 : (Cond.code yX0_codeAt cX0_codeAt 2 (some .int)) ∈ LA := LA_t (LT1 (List.mem_of_getElem? (i := 214) rfl)) rfl
set_option maxRecDepth 100000 in
theorem qw215 : (Cond.methodLink RX0 23 yX3_isNext) ∈ LA := LA_t (LT1 (List.mem_of_getElem? (i := 215) rfl)) rfl
set_option maxRecDepth 100000 in
theorem qw216 : (Cond.instanceMethod yX3_isNext) ∈ LA := LA_t (LT1 (List.mem_of_getElem? (i := 216) rfl)) rfl
set_option maxRecDepth 100000 in
theorem qw217 : (Cond.selects RX3 yX3_isNext yX3_isNext) ∈ LA := LA_t (LT1 (List.mem_of_getElem? (i := 217) rfl)) rfl
set_option maxRecDepth 100000 in
theorem qw218 : (Cond.code yX3_isNext cX3_isNext 2 (some .boolean)) ∈ LA := LA_t (LT1 (List.mem_of_getElem? (i := 218) rfl)) rfl
set_option maxRecDepth 100000 in
theorem qw219 : (Cond.methodLink RX3 28 yX3_isRowWhole) ∈ LA := LA_t (LT1 (List.mem_of_getElem? (i := 219) rfl)) rfl
set_option maxRecDepth 100000 in
theorem qw221 : (Cond.instanceMethod yX3_isRowWhole) ∈ LA := LA_t (LT1 (List.mem_of_getElem? (i := 221) rfl)) rfl
set_option maxRecDepth 100000 in
theorem qw222 : (Cond.code yX3_isRowWhole cX3_isRowWhole 1 (some .boolean)) ∈ LA := LA_t (LT1 (List.mem_of_getElem? (i := 222) rfl)) rfl
set_option maxRecDepth 100000 in
theorem qw223 : (Cond.methodLink RX3 32 yX3_isLastForPond) ∈ LA := LA_t (LT1 (List.mem_of_getElem? (i := 223) rfl)) rfl
set_option maxRecDepth 100000 in
theorem qw225 : (Cond.instanceMethod yX3_isLastForPond) ∈ LA := LA_t (LT1 (List.mem_of_getElem? (i := 225) rfl)) rfl
set_option maxRecDepth 100000 in
theorem qw226 : (Cond.code yX3_isLastForPond cX3_isLastForPond 1 (some .boolean)) ∈ LA := LA_t (LT1 (List.mem_of_getElem? (i := 226) rfl)) rfl
set_option maxRecDepth 100000 in
theorem qw227 : (Cond.methodLink RX0 29 yX3_take) ∈ LA := LA_t (LT1 (List.mem_of_getElem? (i := 227) rfl)) rfl
set_option maxRecDepth 100000 in
theorem qw228 : (Cond.instanceMethod yX3_take) ∈ LA := LA_t (LT1 (List.mem_of_getElem? (i := 228) rfl)) rfl
set_option maxRecDepth 100000 in
theorem qw229 : (Cond.selects RX3 yX3_take yX3_take) ∈ LA := LA_t (LT1 (List.mem_of_getElem? (i := 229) rfl)) rfl
set_option maxRecDepth 100000 in
theorem qw230 : (Cond.code yX3_take cX3_take 2 none) ∈ LA := LA_t (LT1 (List.mem_of_getElem? (i := 230) rfl)) rfl
set_option maxRecDepth 100000 in
theorem qw231 : (Cond.methodLinkNest RX3 35 yX4_placeOf RX4) ∈ LN := LN_t (LT1 (List.mem_of_getElem? (i := 231) rfl)) rfl
set_option maxRecDepth 100000 in
theorem qw232 : (Cond.static yX4_placeOf) ∈ LA := LA_t (LT1 (List.mem_of_getElem? (i := 232) rfl)) rfl
set_option maxRecDepth 100000 in
theorem qw233 : (Cond.code yX4_placeOf cX4_placeOf 2 (some .int)) ∈ LA := LA_t (LT1 (List.mem_of_getElem? (i := 233) rfl)) rfl
set_option maxRecDepth 100000 in
theorem qw234 : (Cond.methodLinkNest RX3 39 yX4_cellAt RX4) ∈ LN := LN_t (LT1 (List.mem_of_getElem? (i := 234) rfl)) rfl
set_option maxRecDepth 100000 in
theorem qw235 : (Cond.static yX4_cellAt) ∈ LA := LA_t (LT1 (List.mem_of_getElem? (i := 235) rfl)) rfl
set_option maxRecDepth 100000 in
theorem qw236 : (Cond.code yX4_cellAt cX4_cellAt 2 (some .long)) ∈ LA := LA_t (LT1 (List.mem_of_getElem? (i := 236) rfl)) rfl
set_option maxRecDepth 100000 in
theorem qw237 : (Cond.methodLink RX4 83 yX4_placeOf) ∈ LA := LA_t (LT1 (List.mem_of_getElem? (i := 237) rfl)) rfl
set_option maxRecDepth 100000 in
theorem qw238 : (Cond.methodLink RL 156 yX4_ways) ∈ LA := LA_t (LT1 (List.mem_of_getElem? (i := 238) rfl)) rfl
set_option maxRecDepth 100000 in
theorem qw239 : (Cond.instanceMethod yX4_ways) ∈ LA := LA_t (LT1 (List.mem_of_getElem? (i := 239) rfl)) rfl
set_option maxRecDepth 100000 in
theorem qw240 : (Cond.selects RX4 yX4_ways yX4_ways) ∈ LA := LA_t (LT2 (List.mem_of_getElem? (i := 0) rfl)) rfl
set_option maxRecDepth 100000 in
theorem qw241 : (Cond.code yX4_ways cX4_ways 1 (some .int)) ∈ LA := LA_t (LT2 (List.mem_of_getElem? (i := 1) rfl)) rfl
set_option maxRecDepth 100000 in
theorem qw242 : (Cond.methodLink RX4 147 yX1_freeCells) ∈ LA := LA_t (LT2 (List.mem_of_getElem? (i := 2) rfl)) rfl
set_option maxRecDepth 100000 in
theorem qw243 : (Cond.instanceMethod yX1_freeCells) ∈ LA := LA_t (LT2 (List.mem_of_getElem? (i := 3) rfl)) rfl
set_option maxRecDepth 100000 in
theorem qw244 : (Cond.selects RX1 yX1_freeCells yX1_freeCells) ∈ LA := LA_t (LT2 (List.mem_of_getElem? (i := 4) rfl)) rfl
set_option maxRecDepth 100000 in
theorem qw245 : (Cond.code yX1_freeCells cX1_freeCells 1 (some .long)) ∈ LA := LA_t (LT2 (List.mem_of_getElem? (i := 5) rfl)) rfl
set_option maxRecDepth 100000 in
theorem qw246 : (Cond.methodLink RX1 48 yX1_blockCells) ∈ LA := LA_t (LT2 (List.mem_of_getElem? (i := 6) rfl)) rfl
set_option maxRecDepth 100000 in
theorem qw247 : (Cond.static yX1_blockCells) ∈ LA := LA_t (LT2 (List.mem_of_getElem? (i := 7) rfl)) rfl
set_option maxRecDepth 100000 in
theorem qw248 : (Cond.code yX1_blockCells cX1_blockCells 7 (some .long)) ∈ LA := LA_t (LT2 (List.mem_of_getElem? (i := 8) rfl)) rfl
set_option maxRecDepth 100000 in
theorem qw249 : (Cond.methodLinkNest RX1 58 yX4_placeOf RX4) ∈ LN := LN_t (LT2 (List.mem_of_getElem? (i := 9) rfl)) rfl
set_option maxRecDepth 100000 in
theorem qw250 : (Cond.methodLink RX1 52 yX1_pondCell) ∈ LA := LA_t (LT2 (List.mem_of_getElem? (i := 10) rfl)) rfl
set_option maxRecDepth 100000 in
theorem qw251 : (Cond.instanceMethod yX1_pondCell) ∈ LA := LA_t (LT2 (List.mem_of_getElem? (i := 11) rfl)) rfl
set_option maxRecDepth 100000 in
theorem qw252 : (Cond.selects RX1 yX1_pondCell yX1_pondCell) ∈ LA := LA_t (LT2 (List.mem_of_getElem? (i := 12) rfl)) rfl
set_option maxRecDepth 100000 in
theorem qw253 : (Cond.code yX1_pondCell cX1_pondCell 1 (some .long)) ∈ LA := LA_t (LT2 (List.mem_of_getElem? (i := 13) rfl)) rfl
set_option maxRecDepth 100000 in
theorem qw254 : (Cond.constantLong RX1 56 (-1)) ∈ LA := LA_t (LT2 (List.mem_of_getElem? (i := 14) rfl)) rfl
set_option maxRecDepth 100000 in
theorem qw255 : (Cond.methodLink RX4 150 yX2_waysToPave) ∈ LA := LA_t (LT2 (List.mem_of_getElem? (i := 15) rfl)) rfl
set_option maxRecDepth 100000 in
theorem qw256 : (Cond.instanceMethod yX2_waysToPave) ∈ LA := LA_t (LT2 (List.mem_of_getElem? (i := 16) rfl)) rfl
set_option maxRecDepth 100000 in
theorem qw257 : (Cond.selects RX2 yX2_waysToPave yX2_waysToPave) ∈ LA := LA_t (LT2 (List.mem_of_getElem? (i := 17) rfl)) rfl
set_option maxRecDepth 100000 in
theorem qw258 : (Cond.code yX2_waysToPave cX2_waysToPave 5 (some .int)) ∈ LA := LA_t (LT2 (List.mem_of_getElem? (i := 18) rfl)) rfl
set_option maxRecDepth 100000 in
theorem qw259 : (Cond.methodLink RX2 30 yJ13_bitCount_95d88) ∈ LA := LA_t (LT2 (List.mem_of_getElem? (i := 19) rfl)) rfl
set_option maxRecDepth 100000 in
theorem qw260 : (Cond.static yJ13_bitCount_95d88) ∈ LA := LA_t (LT2 (List.mem_of_getElem? (i := 20) rfl)) rfl
set_option maxRecDepth 100000 in
theorem qw261 : (Cond.code yJ13_bitCount_95d88 cJ13_bitCount_95d88 2 (some .int)) ∈ LA := LA_t (LT2 (List.mem_of_getElem? (i := 21) rfl)) rfl
set_option maxRecDepth 100000 in
theorem qw262 : (Cond.constantLong RJ13 314 6148914691236517205) ∈ LA := LA_t (LT2 (List.mem_of_getElem? (i := 22) rfl)) rfl
set_option maxRecDepth 100000 in
theorem qw263 : (Cond.constantLong RJ13 316 3689348814741910323) ∈ LA := LA_t (LT2 (List.mem_of_getElem? (i := 23) rfl)) rfl
set_option maxRecDepth 100000 in
theorem qw264 : (Cond.constantLong RJ13 318 1085102592571150095) ∈ LA := LA_t (LT2 (List.mem_of_getElem? (i := 24) rfl)) rfl
set_option maxRecDepth 100000 in
theorem qw265 : (Cond.methodLink RX2 36 yX2_begin) ∈ LA := LA_t (LT2 (List.mem_of_getElem? (i := 25) rfl)) rfl
set_option maxRecDepth 100000 in
theorem qw267 : (Cond.instanceMethod yX2_begin) ∈ LA := LA_t (LT2 (List.mem_of_getElem? (i := 27) rfl)) rfl
set_option maxRecDepth 100000 in
theorem qw268 : (Cond.code yX2_begin cX2_begin 1 none) ∈ LA := LA_t (LT2 (List.mem_of_getElem? (i := 28) rfl)) rfl
set_option maxRecDepth 100000 in
theorem qw269 : (Cond.methodLink RX2 56 yX6_clear) ∈ LA := LA_t (LT2 (List.mem_of_getElem? (i := 29) rfl)) rfl
set_option maxRecDepth 100000 in
theorem qw270 : (Cond.instanceMethod yX6_clear) ∈ LA := LA_t (LT2 (List.mem_of_getElem? (i := 30) rfl)) rfl
set_option maxRecDepth 100000 in
theorem qw271 : (Cond.selects RX6 yX6_clear yX6_clear) ∈ LA := LA_t (LT2 (List.mem_of_getElem? (i := 31) rfl)) rfl
set_option maxRecDepth 100000 in
theorem qw272 : (Cond.code yX6_clear cX6_clear 2 none) ∈ LA := LA_t (LT2 (List.mem_of_getElem? (i := 32) rfl)) rfl
set_option maxRecDepth 100000 in
theorem qw273 : (Cond.methodLink RX6 22 yX6_windowAt) ∈ LA := LA_t (LT2 (List.mem_of_getElem? (i := 33) rfl)) rfl
set_option maxRecDepth 100000 in
theorem qw274 : (Cond.instanceMethod yX6_windowAt) ∈ LA := LA_t (LT2 (List.mem_of_getElem? (i := 34) rfl)) rfl
set_option maxRecDepth 100000 in
theorem qw275 : (Cond.selects RX6 yX6_windowAt yX6_windowAt) ∈ LA := LA_t (LT2 (List.mem_of_getElem? (i := 35) rfl)) rfl
set_option maxRecDepth 100000 in
theorem qw276 : (Cond.code yX6_windowAt cX6_windowAt 2 (some .int)) ∈ LA := LA_t (LT2 (List.mem_of_getElem? (i := 36) rfl)) rfl
set_option maxRecDepth 100000 in
theorem qw277 : (Cond.methodLink RX2 59 yX6_add) ∈ LA := LA_t (LT2 (List.mem_of_getElem? (i := 37) rfl)) rfl
set_option maxRecDepth 100000 in
theorem qw278 : (Cond.instanceMethod yX6_add) ∈ LA := LA_t (LT2 (List.mem_of_getElem? (i := 38) rfl)) rfl
set_option maxRecDepth 100000 in
theorem qw279 : (Cond.selects RX6 yX6_add yX6_add) ∈ LA := LA_t (LT2 (List.mem_of_getElem? (i := 39) rfl)) rfl
set_option maxRecDepth 100000 in
theorem qw280 : (Cond.code yX6_add cX6_add 3 none) ∈ LA := LA_t (LT2 (List.mem_of_getElem? (i := 40) rfl)) rfl
set_option maxRecDepth 100000 in
theorem qw281 : (Cond.methodLink RX2 39 yX2_endOf) ∈ LA := LA_t (LT2 (List.mem_of_getElem? (i := 41) rfl)) rfl
set_option maxRecDepth 100000 in
theorem qw282 : (Cond.static yX2_endOf) ∈ LA := LA_t (LT2 (List.mem_of_getElem? (i := 42) rfl)) rfl
set_option maxRecDepth 100000 in
theorem qw283 : (Cond.code yX2_endOf cX2_endOf 2 (some .int)) ∈ LA := LA_t (LT2 (List.mem_of_getElem? (i := 43) rfl)) rfl
set_option maxRecDepth 100000 in
theorem qw284 : (Cond.methodLink RX2 53 yJ13_numberOfLeadingZeros_95d88) ∈ LA := LA_t (LT2 (List.mem_of_getElem? (i := 44) rfl)) rfl
set_option maxRecDepth 100000 in
theorem qw285 : (Cond.static yJ13_numberOfLeadingZeros_95d88) ∈ LA := LA_t (LT2 (List.mem_of_getElem? (i := 45) rfl)) rfl
set_option maxRecDepth 100000 in
theorem qw286 : (Cond.code yJ13_numberOfLeadingZeros_95d88 cJ13_numberOfLeadingZeros_95d88 3 (some .int)) ∈ LA := LA_t (LT2 (List.mem_of_getElem? (i := 46) rfl)) rfl
set_option maxRecDepth 100000 in
theorem qw287 : (Cond.methodLink RJ13 308 yJ6_numberOfLeadingZeros_0f7a4) ∈ LA := LA_t (LT2 (List.mem_of_getElem? (i := 47) rfl)) rfl
set_option maxRecDepth 100000 in
theorem qw288 : (Cond.static yJ6_numberOfLeadingZeros_0f7a4) ∈ LA := LA_t (LT2 (List.mem_of_getElem? (i := 48) rfl)) rfl
set_option maxRecDepth 100000 in
theorem qw289 : (Cond.code yJ6_numberOfLeadingZeros_0f7a4 cJ6_numberOfLeadingZeros_0f7a4 2 (some .int)) ∈ LA := LA_t (LT2 (List.mem_of_getElem? (i := 49) rfl)) rfl
set_option maxRecDepth 100000 in
theorem qw290 : (Cond.constant RJ6 264 65536) ∈ LA := LA_t (LT2 (List.mem_of_getElem? (i := 50) rfl)) rfl
set_option maxRecDepth 100000 in
theorem qw291 : (Cond.methodLink RX2 42 yJ13_numberOfTrailingZeros_95d88) ∈ LA := LA_t (LT2 (List.mem_of_getElem? (i := 51) rfl)) rfl
set_option maxRecDepth 100000 in
theorem qw292 : (Cond.static yJ13_numberOfTrailingZeros_95d88) ∈ LA := LA_t (LT2 (List.mem_of_getElem? (i := 52) rfl)) rfl
set_option maxRecDepth 100000 in
theorem qw293 : (Cond.code yJ13_numberOfTrailingZeros_95d88 cJ13_numberOfTrailingZeros_95d88 3 (some .int)) ∈ LA := LA_t (LT2 (List.mem_of_getElem? (i := 53) rfl)) rfl
set_option maxRecDepth 100000 in
theorem qw294 : (Cond.methodLink RJ13 311 yJ6_numberOfTrailingZeros_0f7a4) ∈ LA := LA_t (LT2 (List.mem_of_getElem? (i := 54) rfl)) rfl
set_option maxRecDepth 100000 in
theorem qw295 : (Cond.static yJ6_numberOfTrailingZeros_0f7a4) ∈ LA := LA_t (LT2 (List.mem_of_getElem? (i := 55) rfl)) rfl
set_option maxRecDepth 100000 in
theorem qw296 : (Cond.code yJ6_numberOfTrailingZeros_0f7a4 cJ6_numberOfTrailingZeros_0f7a4 2 (some .int)) ∈ LA := LA_t (LT2 (List.mem_of_getElem? (i := 56) rfl)) rfl
set_option maxRecDepth 100000 in
theorem qw297 : (Cond.methodLink RX2 45 yX2_goOn) ∈ LA := LA_t (LT2 (List.mem_of_getElem? (i := 57) rfl)) rfl
set_option maxRecDepth 100000 in
theorem qw299 : (Cond.instanceMethod yX2_goOn) ∈ LA := LA_t (LT2 (List.mem_of_getElem? (i := 59) rfl)) rfl
set_option maxRecDepth 100000 in
theorem qw300 : (Cond.code yX2_goOn cX2_goOn 7 none) ∈ LA := LA_t (LT2 (List.mem_of_getElem? (i := 60) rfl)) rfl
set_option maxRecDepth 100000 in
theorem qw301 : (Cond.methodLinkNest RX2 63 yX4_holds RX4) ∈ LN := LN_t (LT2 (List.mem_of_getElem? (i := 61) rfl)) rfl
set_option maxRecDepth 100000 in
theorem qw302 : (Cond.static yX4_holds) ∈ LA := LA_t (LT2 (List.mem_of_getElem? (i := 62) rfl)) rfl
set_option maxRecDepth 100000 in
theorem qw303 : (Cond.code yX4_holds cX4_holds 3 (some .boolean)) ∈ LA := LA_t (LT2 (List.mem_of_getElem? (i := 63) rfl)) rfl
set_option maxRecDepth 100000 in
theorem qw304 : (Cond.methodLink RX2 67 yX2_findTakes) ∈ LA := LA_t (LT2 (List.mem_of_getElem? (i := 64) rfl)) rfl
set_option maxRecDepth 100000 in
theorem qw306 : (Cond.instanceMethod yX2_findTakes) ∈ LA := LA_t (LT2 (List.mem_of_getElem? (i := 66) rfl)) rfl
set_option maxRecDepth 100000 in
theorem qw307 : (Cond.code yX2_findTakes cX2_findTakes 8 none) ∈ LA := LA_t (LT2 (List.mem_of_getElem? (i := 67) rfl)) rfl
set_option maxRecDepth 100000 in
theorem qw308 : (Cond.methodLink RX2 89 yX2_blockColumn) ∈ LA := LA_t (LT2 (List.mem_of_getElem? (i := 68) rfl)) rfl
set_option maxRecDepth 100000 in
theorem qw309 : (Cond.static yX2_blockColumn) ∈ LA := LA_t (LT2 (List.mem_of_getElem? (i := 69) rfl)) rfl
set_option maxRecDepth 100000 in
theorem qw310 : (Cond.code yX2_blockColumn cX2_blockColumn 2 (some .int)) ∈ LA := LA_t (LT2 (List.mem_of_getElem? (i := 70) rfl)) rfl
set_option maxRecDepth 100000 in
theorem qw311 : (Cond.methodLinkNest RX2 92 yX4_cellsOf RX4) ∈ LN := LN_t (LT2 (List.mem_of_getElem? (i := 71) rfl)) rfl
set_option maxRecDepth 100000 in
theorem qw312 : (Cond.static yX4_cellsOf) ∈ LA := LA_t (LT2 (List.mem_of_getElem? (i := 72) rfl)) rfl
set_option maxRecDepth 100000 in
theorem qw313 : (Cond.code yX4_cellsOf cX4_cellsOf 4 (some .long)) ∈ LA := LA_t (LT2 (List.mem_of_getElem? (i := 73) rfl)) rfl
set_option maxRecDepth 100000 in
theorem qw314 : (Cond.fieldLink RX4 365 "BentGardens" "SHAPES" "[J") ∈ LA := LA_t (LT2 (List.mem_of_getElem? (i := 74) rfl)) rfl
set_option maxRecDepth 100000 in
theorem qw316 : (Cond.constantLong RX2 96 (-1)) ∈ LA := LA_t (LT2 (List.mem_of_getElem? (i := 76) rfl)) rfl
set_option maxRecDepth 100000 in
theorem qw317 : (Cond.methodLink RX2 74 yX6_windowAt) ∈ LA := LA_t (LT2 (List.mem_of_getElem? (i := 77) rfl)) rfl
set_option maxRecDepth 100000 in
theorem qw318 : (Cond.methodLink RX2 77 yX2_goOnByTurns) ∈ LA := LA_t (LT2 (List.mem_of_getElem? (i := 78) rfl)) rfl
set_option maxRecDepth 100000 in
theorem qw320 : (Cond.instanceMethod yX2_goOnByTurns) ∈ LA := LA_t (LT2 (List.mem_of_getElem? (i := 80) rfl)) rfl
set_option maxRecDepth 100000 in
theorem qw321 : (Cond.code yX2_goOnByTurns cX2_goOnByTurns 3 none) ∈ LA := LA_t (LT2 (List.mem_of_getElem? (i := 81) rfl)) rfl
set_option maxRecDepth 100000 in
theorem qw322 : (Cond.methodLink RX2 81 yX2_isOpen) ∈ LA := LA_t (LT2 (List.mem_of_getElem? (i := 82) rfl)) rfl
set_option maxRecDepth 100000 in
theorem qw324 : (Cond.instanceMethod yX2_isOpen) ∈ LA := LA_t (LT2 (List.mem_of_getElem? (i := 84) rfl)) rfl
set_option maxRecDepth 100000 in
theorem qw325 : (Cond.code yX2_isOpen cX2_isOpen 3 (some .boolean)) ∈ LA := LA_t (LT2 (List.mem_of_getElem? (i := 85) rfl)) rfl
set_option maxRecDepth 100000 in
theorem qw326 : (Cond.methodLink RX2 85 yX2_windowAfter) ∈ LA := LA_t (LT2 (List.mem_of_getElem? (i := 86) rfl)) rfl
set_option maxRecDepth 100000 in
theorem qw328 : (Cond.instanceMethod yX2_windowAfter) ∈ LA := LA_t (LT2 (List.mem_of_getElem? (i := 88) rfl)) rfl
set_option maxRecDepth 100000 in
theorem qw329 : (Cond.code yX2_windowAfter cX2_windowAfter 3 (some .int)) ∈ LA := LA_t (LT2 (List.mem_of_getElem? (i := 89) rfl)) rfl
set_option maxRecDepth 100000 in
theorem qw330 : (Cond.methodLink RX2 49 yX6_waysTo) ∈ LA := LA_t (LT2 (List.mem_of_getElem? (i := 90) rfl)) rfl
set_option maxRecDepth 100000 in
theorem qw331 : (Cond.instanceMethod yX6_waysTo) ∈ LA := LA_t (LT2 (List.mem_of_getElem? (i := 91) rfl)) rfl
set_option maxRecDepth 100000 in
theorem qw332 : (Cond.selects RX6 yX6_waysTo yX6_waysTo) ∈ LA := LA_t (LT2 (List.mem_of_getElem? (i := 92) rfl)) rfl
set_option maxRecDepth 100000 in
theorem qw333 : (Cond.code yX6_waysTo cX6_waysTo 2 (some .int)) ∈ LA := LA_t (LT2 (List.mem_of_getElem? (i := 93) rfl)) rfl
set_option maxRecDepth 100000 in
theorem qw334 : (Cond.methodLink RL 166 yX4_lonely) ∈ LA := LA_t (LT2 (List.mem_of_getElem? (i := 94) rfl)) rfl
set_option maxRecDepth 100000 in
theorem qw335 : (Cond.instanceMethod yX4_lonely) ∈ LA := LA_t (LT2 (List.mem_of_getElem? (i := 95) rfl)) rfl
set_option maxRecDepth 100000 in
theorem qw336 : (Cond.selects RX4 yX4_lonely yX4_lonely) ∈ LA := LA_t (LT2 (List.mem_of_getElem? (i := 96) rfl)) rfl
set_option maxRecDepth 100000 in
theorem qw337 : (Cond.code yX4_lonely cX4_lonely 2 (some .int)) ∈ LA := LA_t (LT2 (List.mem_of_getElem? (i := 97) rfl)) rfl
set_option maxRecDepth 100000 in
theorem qw338 : (Cond.methodLink RX4 275 yX1_firstFreeWith) ∈ LA := LA_t (LT2 (List.mem_of_getElem? (i := 98) rfl)) rfl
set_option maxRecDepth 100000 in
theorem qw339 : (Cond.instanceMethod yX1_firstFreeWith) ∈ LA := LA_t (LT2 (List.mem_of_getElem? (i := 99) rfl)) rfl
set_option maxRecDepth 100000 in
theorem qw340 : (Cond.selects RX1 yX1_firstFreeWith yX1_firstFreeWith) ∈ LA := LA_t (LT2 (List.mem_of_getElem? (i := 100) rfl)) rfl
set_option maxRecDepth 100000 in
theorem qw341 : (Cond.code yX1_firstFreeWith cX1_firstFreeWith 5 (some .int)) ∈ LA := LA_t (LT2 (List.mem_of_getElem? (i := 101) rfl)) rfl
set_option maxRecDepth 100000 in
theorem qw342 : (Cond.methodLink RX1 108 yX1_freeCells) ∈ LA := LA_t (LT2 (List.mem_of_getElem? (i := 102) rfl)) rfl
set_option maxRecDepth 100000 in
theorem qw343 : (Cond.methodLinkNest RX1 100 yX4_holds RX4) ∈ LN := LN_t (LT2 (List.mem_of_getElem? (i := 103) rfl)) rfl
set_option maxRecDepth 100000 in
theorem qw344 : (Cond.methodLink RX1 111 yX1_coverCount) ∈ LA := LA_t (LT2 (List.mem_of_getElem? (i := 104) rfl)) rfl
set_option maxRecDepth 100000 in
theorem qw345 : (Cond.instanceMethod yX1_coverCount) ∈ LA := LA_t (LT2 (List.mem_of_getElem? (i := 105) rfl)) rfl
set_option maxRecDepth 100000 in
theorem qw346 : (Cond.selects RX1 yX1_coverCount yX1_coverCount) ∈ LA := LA_t (LT2 (List.mem_of_getElem? (i := 106) rfl)) rfl
set_option maxRecDepth 100000 in
theorem qw347 : (Cond.code yX1_coverCount cX1_coverCount 4 (some .int)) ∈ LA := LA_t (LT2 (List.mem_of_getElem? (i := 107) rfl)) rfl
set_option maxRecDepth 100000 in
theorem qw348 : (Cond.methodLink RX1 104 yX1_couldCover) ∈ LA := LA_t (LT2 (List.mem_of_getElem? (i := 108) rfl)) rfl
set_option maxRecDepth 100000 in
theorem qw350 : (Cond.instanceMethod yX1_couldCover) ∈ LA := LA_t (LT2 (List.mem_of_getElem? (i := 110) rfl)) rfl
set_option maxRecDepth 100000 in
theorem qw351 : (Cond.code yX1_couldCover cX1_couldCover 6 (some .boolean)) ∈ LA := LA_t (LT2 (List.mem_of_getElem? (i := 111) rfl)) rfl
set_option maxRecDepth 100000 in
theorem qw352 : (Cond.methodLink RX1 94 yX1_coverX) ∈ LA := LA_t (LT2 (List.mem_of_getElem? (i := 112) rfl)) rfl
set_option maxRecDepth 100000 in
theorem qw353 : (Cond.static yX1_coverX) ∈ LA := LA_t (LT2 (List.mem_of_getElem? (i := 113) rfl)) rfl
set_option maxRecDepth 100000 in
theorem qw354 : (Cond.code yX1_coverX cX1_coverX 2 (some .int)) ∈ LA := LA_t (LT2 (List.mem_of_getElem? (i := 114) rfl)) rfl
set_option maxRecDepth 100000 in
theorem qw355 : (Cond.methodLink RX1 97 yX1_coverY) ∈ LA := LA_t (LT2 (List.mem_of_getElem? (i := 115) rfl)) rfl
set_option maxRecDepth 100000 in
theorem qw356 : (Cond.static yX1_coverY) ∈ LA := LA_t (LT2 (List.mem_of_getElem? (i := 116) rfl)) rfl
set_option maxRecDepth 100000 in
theorem qw357 : (Cond.code yX1_coverY cX1_coverY 2 (some .int)) ∈ LA := LA_t (LT2 (List.mem_of_getElem? (i := 117) rfl)) rfl
set_option maxRecDepth 100000 in
theorem qw358 : (Cond.methodLink RX1 91 yX1_whyRefused) ∈ LA := LA_t (LT2 (List.mem_of_getElem? (i := 118) rfl)) rfl
set_option maxRecDepth 100000 in
theorem qw359 : (Cond.instanceMethod yX1_whyRefused) ∈ LA := LA_t (LT2 (List.mem_of_getElem? (i := 119) rfl)) rfl
set_option maxRecDepth 100000 in
theorem qw360 : (Cond.selects RX1 yX1_whyRefused yX1_whyRefused) ∈ LA := LA_t (LT2 (List.mem_of_getElem? (i := 120) rfl)) rfl
set_option maxRecDepth 100000 in
theorem qw361 : (Cond.code yX1_whyRefused cX1_whyRefused 6 (some .int)) ∈ LA := LA_t (LT2 (List.mem_of_getElem? (i := 121) rfl)) rfl
set_option maxRecDepth 100000 in
theorem qw362 : (Cond.methodLink RX1 62 yX1_hasBlock) ∈ LA := LA_t (LT2 (List.mem_of_getElem? (i := 122) rfl)) rfl
set_option maxRecDepth 100000 in
theorem qw363 : (Cond.instanceMethod yX1_hasBlock) ∈ LA := LA_t (LT2 (List.mem_of_getElem? (i := 123) rfl)) rfl
set_option maxRecDepth 100000 in
theorem qw364 : (Cond.selects RX1 yX1_hasBlock yX1_hasBlock) ∈ LA := LA_t (LT2 (List.mem_of_getElem? (i := 124) rfl)) rfl
set_option maxRecDepth 100000 in
theorem qw365 : (Cond.code yX1_hasBlock cX1_hasBlock 5 (some .boolean)) ∈ LA := LA_t (LT2 (List.mem_of_getElem? (i := 125) rfl)) rfl
set_option maxRecDepth 100000 in
theorem qw366 : (Cond.methodLinkNest RX1 66 yX4_cellsOf RX4) ∈ LN := LN_t (LT2 (List.mem_of_getElem? (i := 126) rfl)) rfl
set_option maxRecDepth 100000 in
theorem qw367 : (Cond.methodLink RX4 87 yX4_cellName) ∈ LA := LA_t (LT2 (List.mem_of_getElem? (i := 127) rfl)) rfl
set_option maxRecDepth 100000 in
theorem qw368 : (Cond.static yX4_cellName) ∈ LA := LA_t (LT2 (List.mem_of_getElem? (i := 128) rfl)) rfl
set_option maxRecDepth 100000 in
theorem qw369 : (Cond.code yX4_cellName cX4_cellName 1 (some .int)) ∈ LA := LA_t (LT2 (List.mem_of_getElem? (i := 129) rfl)) rfl
set_option maxRecDepth 100000 in
theorem qw370 : (Cond.methodLink RL 170 yX4_bestPond) ∈ LA := LA_t (LT2 (List.mem_of_getElem? (i := 130) rfl)) rfl
set_option maxRecDepth 100000 in
theorem qw371 : (Cond.instanceMethod yX4_bestPond) ∈ LA := LA_t (LT2 (List.mem_of_getElem? (i := 131) rfl)) rfl
set_option maxRecDepth 100000 in
theorem qw372 : (Cond.selects RX4 yX4_bestPond yX4_bestPond) ∈ LA := LA_t (LT2 (List.mem_of_getElem? (i := 132) rfl)) rfl
set_option maxRecDepth 100000 in
theorem qw373 : (Cond.code yX4_bestPond cX4_bestPond 2 (some .int)) ∈ LA := LA_t (LT2 (List.mem_of_getElem? (i := 133) rfl)) rfl
set_option maxRecDepth 100000 in
theorem qw374 : (Cond.methodLink RX4 91 yX1_pondCell) ∈ LA := LA_t (LT2 (List.mem_of_getElem? (i := 134) rfl)) rfl
set_option maxRecDepth 100000 in
theorem qw375 : (Cond.methodLink RX4 281 yX2_bestGap) ∈ LA := LA_t (LT2 (List.mem_of_getElem? (i := 135) rfl)) rfl
set_option maxRecDepth 100000 in
theorem qw376 : (Cond.instanceMethod yX2_bestGap) ∈ LA := LA_t (LT2 (List.mem_of_getElem? (i := 136) rfl)) rfl
set_option maxRecDepth 100000 in
theorem qw377 : (Cond.selects RX2 yX2_bestGap yX2_bestGap) ∈ LA := LA_t (LT2 (List.mem_of_getElem? (i := 137) rfl)) rfl
set_option maxRecDepth 100000 in
theorem qw378 : (Cond.code yX2_bestGap cX2_bestGap 8 (some .int)) ∈ LA := LA_t (LT2 (List.mem_of_getElem? (i := 138) rfl)) rfl
set_option maxRecDepth 100000 in
theorem qw379 : (Cond.methodLink RX2 130 yX2_countRest) ∈ LA := LA_t (LT2 (List.mem_of_getElem? (i := 139) rfl)) rfl
set_option maxRecDepth 100000 in
theorem qw381 : (Cond.instanceMethod yX2_countRest) ∈ LA := LA_t (LT2 (List.mem_of_getElem? (i := 141) rfl)) rfl
set_option maxRecDepth 100000 in
theorem qw382 : (Cond.code yX2_countRest cX2_countRest 6 none) ∈ LA := LA_t (LT2 (List.mem_of_getElem? (i := 142) rfl)) rfl
set_option maxRecDepth 100000 in
theorem qw383 : (Cond.methodLink RX2 98 yX2_restOf) ∈ LA := LA_t (LT2 (List.mem_of_getElem? (i := 143) rfl)) rfl
set_option maxRecDepth 100000 in
theorem qw385 : (Cond.instanceMethod yX2_restOf) ∈ LA := LA_t (LT2 (List.mem_of_getElem? (i := 145) rfl)) rfl
set_option maxRecDepth 100000 in
theorem qw386 : (Cond.code yX2_restOf cX2_restOf 2 (some (.array .int))) ∈ LA := LA_t (LT2 (List.mem_of_getElem? (i := 146) rfl)) rfl
set_option maxRecDepth 100000 in
theorem qw387 : (Cond.methodLink RX2 112 yJ9_min_7cf53) ∈ LA := LA_t (LT2 (List.mem_of_getElem? (i := 147) rfl)) rfl
set_option maxRecDepth 100000 in
theorem qw388 : (Cond.static yJ9_min_7cf53) ∈ LA := LA_t (LT2 (List.mem_of_getElem? (i := 148) rfl)) rfl
set_option maxRecDepth 100000 in
theorem qw389 : (Cond.code yJ9_min_7cf53 cJ9_min_7cf53 2 (some .int)) ∈ LA := LA_t (LT2 (List.mem_of_getElem? (i := 149) rfl)) rfl
set_option maxRecDepth 100000 in
theorem qw390 : (Cond.methodLink RX2 117 yJ9_max_7cf53) ∈ LA := LA_t (LT2 (List.mem_of_getElem? (i := 150) rfl)) rfl
set_option maxRecDepth 100000 in
theorem qw391 : (Cond.static yJ9_max_7cf53) ∈ LA := LA_t (LT2 (List.mem_of_getElem? (i := 151) rfl)) rfl
set_option maxRecDepth 100000 in
theorem qw392 : (Cond.code yJ9_max_7cf53 cJ9_max_7cf53 2 (some .int)) ∈ LA := LA_t (LT2 (List.mem_of_getElem? (i := 152) rfl)) rfl
set_option maxRecDepth 100000 in
theorem qw393 : (Cond.methodLink RX2 102 yJ7_fill_53178) ∈ LA := LA_t (LT2 (List.mem_of_getElem? (i := 153) rfl)) rfl
set_option maxRecDepth 100000 in
theorem qw394 : (Cond.static yJ7_fill_53178) ∈ LA := LA_t (LT2 (List.mem_of_getElem? (i := 154) rfl)) rfl
set_option maxRecDepth 100000 in
theorem qw395 : (Cond.code yJ7_fill_53178 cJ7_fill_53178 4 none) ∈ LA := LA_t (LT2 (List.mem_of_getElem? (i := 155) rfl)) rfl
set_option maxRecDepth 100000 in
theorem qw396 : (Cond.methodLink RX2 108 yX2_countPlace) ∈ LA := LA_t (LT2 (List.mem_of_getElem? (i := 156) rfl)) rfl
set_option maxRecDepth 100000 in
theorem qw398 : (Cond.instanceMethod yX2_countPlace) ∈ LA := LA_t (LT2 (List.mem_of_getElem? (i := 158) rfl)) rfl
set_option maxRecDepth 100000 in
theorem qw399 : (Cond.code yX2_countPlace cX2_countPlace 5 none) ∈ LA := LA_t (LT2 (List.mem_of_getElem? (i := 159) rfl)) rfl
set_option maxRecDepth 100000 in
theorem qw400 : (Cond.methodLink RX2 120 yX2_countTurns) ∈ LA := LA_t (LT2 (List.mem_of_getElem? (i := 160) rfl)) rfl
set_option maxRecDepth 100000 in
theorem qw402 : (Cond.instanceMethod yX2_countTurns) ∈ LA := LA_t (LT2 (List.mem_of_getElem? (i := 162) rfl)) rfl
set_option maxRecDepth 100000 in
theorem qw403 : (Cond.code yX2_countTurns cX2_countTurns 5 (some .int)) ∈ LA := LA_t (LT2 (List.mem_of_getElem? (i := 163) rfl)) rfl
set_option maxRecDepth 100000 in
theorem qw404 : (Cond.methodLink RX2 144 yX2_waysAround) ∈ LA := LA_t (LT2 (List.mem_of_getElem? (i := 164) rfl)) rfl
set_option maxRecDepth 100000 in
theorem qw406 : (Cond.instanceMethod yX2_waysAround) ∈ LA := LA_t (LT2 (List.mem_of_getElem? (i := 166) rfl)) rfl
set_option maxRecDepth 100000 in
theorem qw407 : (Cond.code yX2_waysAround cX2_waysAround 5 (some .int)) ∈ LA := LA_t (LT2 (List.mem_of_getElem? (i := 167) rfl)) rfl
set_option maxRecDepth 100000 in
theorem qw408 : (Cond.methodLink RX2 141 yX2_restFrom) ∈ LA := LA_t (LT2 (List.mem_of_getElem? (i := 168) rfl)) rfl
set_option maxRecDepth 100000 in
theorem qw410 : (Cond.instanceMethod yX2_restFrom) ∈ LA := LA_t (LT2 (List.mem_of_getElem? (i := 170) rfl)) rfl
set_option maxRecDepth 100000 in
theorem qw411 : (Cond.code yX2_restFrom cX2_restFrom 3 (some .int)) ∈ LA := LA_t (LT2 (List.mem_of_getElem? (i := 171) rfl)) rfl
set_option maxRecDepth 100000 in
theorem qw412 : (Cond.methodLink RL 174 yX4_pavedShare) ∈ LA := LA_t (LT2 (List.mem_of_getElem? (i := 172) rfl)) rfl
set_option maxRecDepth 100000 in
theorem qw413 : (Cond.instanceMethod yX4_pavedShare) ∈ LA := LA_t (LT2 (List.mem_of_getElem? (i := 173) rfl)) rfl
set_option maxRecDepth 100000 in
theorem qw414 : (Cond.selects RX4 yX4_pavedShare yX4_pavedShare) ∈ LA := LA_t (LT2 (List.mem_of_getElem? (i := 174) rfl)) rfl
set_option maxRecDepth 100000 in
theorem qw415 : (Cond.code yX4_pavedShare cX4_pavedShare 3 (some .double)) ∈ LA := LA_t (LT2 (List.mem_of_getElem? (i := 175) rfl)) rfl
set_option maxRecDepth 100000 in
theorem qw416 : (Cond.methodLink RX4 97 yJ13_bitCount_95d88) ∈ LA := LA_t (LT2 (List.mem_of_getElem? (i := 176) rfl)) rfl
set_option maxRecDepth 100000 in
theorem qw417 : (Cond.methodLink RL 179 yX4_digest) ∈ LA := LA_t (LT2 (List.mem_of_getElem? (i := 177) rfl)) rfl
set_option maxRecDepth 100000 in
theorem qw418 : (Cond.instanceMethod yX4_digest) ∈ LA := LA_t (LT2 (List.mem_of_getElem? (i := 178) rfl)) rfl
set_option maxRecDepth 100000 in
theorem qw419 : (Cond.selects RX4 yX4_digest yX4_digest) ∈ LA := LA_t (LT2 (List.mem_of_getElem? (i := 179) rfl)) rfl
set_option maxRecDepth 100000 in
theorem qw420 : (Cond.code yX4_digest cX4_digest 5 (some .long)) ∈ LA := LA_t (LT2 (List.mem_of_getElem? (i := 180) rfl)) rfl
set_option maxRecDepth 100000 in
theorem qw421 : (Cond.constantLong RX4 284 3181) ∈ LA := LA_t (LT2 (List.mem_of_getElem? (i := 181) rfl)) rfl
set_option maxRecDepth 100000 in
theorem qw422 : (Cond.methodLink RX4 286 yX4_count) ∈ LA := LA_t (LT2 (List.mem_of_getElem? (i := 182) rfl)) rfl
set_option maxRecDepth 100000 in
theorem qw423 : (Cond.instanceMethod yX4_count) ∈ LA := LA_t (LT2 (List.mem_of_getElem? (i := 183) rfl)) rfl
set_option maxRecDepth 100000 in
theorem qw424 : (Cond.selects RX4 yX4_count yX4_count) ∈ LA := LA_t (LT2 (List.mem_of_getElem? (i := 184) rfl)) rfl
set_option maxRecDepth 100000 in
theorem qw425 : (Cond.code yX4_count cX4_count 2 (some .int)) ∈ LA := LA_t (LT2 (List.mem_of_getElem? (i := 185) rfl)) rfl
set_option maxRecDepth 100000 in
theorem qw426 : (Cond.methodLink RX4 259 yX1_layableTriples) ∈ LA := LA_t (LT2 (List.mem_of_getElem? (i := 186) rfl)) rfl
set_option maxRecDepth 100000 in
theorem qw427 : (Cond.instanceMethod yX1_layableTriples) ∈ LA := LA_t (LT2 (List.mem_of_getElem? (i := 187) rfl)) rfl
set_option maxRecDepth 100000 in
theorem qw428 : (Cond.selects RX1 yX1_layableTriples yX1_layableTriples) ∈ LA := LA_t (LT2 (List.mem_of_getElem? (i := 188) rfl)) rfl
set_option maxRecDepth 100000 in
theorem qw429 : (Cond.code yX1_layableTriples cX1_layableTriples 5 (some .int)) ∈ LA := LA_t (LT2 (List.mem_of_getElem? (i := 189) rfl)) rfl
set_option maxRecDepth 100000 in
theorem qw430 : (Cond.methodLink RX4 262 yX1_flippableBlocks) ∈ LA := LA_t (LT2 (List.mem_of_getElem? (i := 190) rfl)) rfl
set_option maxRecDepth 100000 in
theorem qw431 : (Cond.instanceMethod yX1_flippableBlocks) ∈ LA := LA_t (LT2 (List.mem_of_getElem? (i := 191) rfl)) rfl
set_option maxRecDepth 100000 in
theorem qw432 : (Cond.selects RX1 yX1_flippableBlocks yX1_flippableBlocks) ∈ LA := LA_t (LT2 (List.mem_of_getElem? (i := 192) rfl)) rfl
set_option maxRecDepth 100000 in
theorem qw433 : (Cond.code yX1_flippableBlocks cX1_flippableBlocks 4 (some .int)) ∈ LA := LA_t (LT2 (List.mem_of_getElem? (i := 193) rfl)) rfl
set_option maxRecDepth 100000 in
theorem qw434 : (Cond.methodLink RX1 142 yX1_hasFlipBlock) ∈ LA := LA_t (LT2 (List.mem_of_getElem? (i := 194) rfl)) rfl
set_option maxRecDepth 100000 in
theorem qw435 : (Cond.instanceMethod yX1_hasFlipBlock) ∈ LA := LA_t (LT2 (List.mem_of_getElem? (i := 195) rfl)) rfl
set_option maxRecDepth 100000 in
theorem qw436 : (Cond.selects RX1 yX1_hasFlipBlock yX1_hasFlipBlock) ∈ LA := LA_t (LT2 (List.mem_of_getElem? (i := 196) rfl)) rfl
set_option maxRecDepth 100000 in
theorem qw437 : (Cond.code yX1_hasFlipBlock cX1_hasFlipBlock 4 (some .boolean)) ∈ LA := LA_t (LT2 (List.mem_of_getElem? (i := 197) rfl)) rfl
set_option maxRecDepth 100000 in
theorem qw438 : (Cond.methodLink RX1 146 yX1_isFlippable) ∈ LA := LA_t (LT2 (List.mem_of_getElem? (i := 198) rfl)) rfl
set_option maxRecDepth 100000 in
theorem qw439 : (Cond.instanceMethod yX1_isFlippable) ∈ LA := LA_t (LT2 (List.mem_of_getElem? (i := 199) rfl)) rfl
set_option maxRecDepth 100000 in
theorem qw440 : (Cond.selects RX1 yX1_isFlippable yX1_isFlippable) ∈ LA := LA_t (LT2 (List.mem_of_getElem? (i := 200) rfl)) rfl
set_option maxRecDepth 100000 in
theorem qw441 : (Cond.code yX1_isFlippable cX1_isFlippable 8 (some .boolean)) ∈ LA := LA_t (LT2 (List.mem_of_getElem? (i := 201) rfl)) rfl
set_option maxRecDepth 100000 in
theorem qw442 : (Cond.methodLinkNest RX1 114 yX4_cellAt RX4) ∈ LN := LN_t (LT2 (List.mem_of_getElem? (i := 202) rfl)) rfl
set_option maxRecDepth 100000 in
theorem qw443 : (Cond.methodLink RX1 118 yX1_tripleOver) ∈ LA := LA_t (LT2 (List.mem_of_getElem? (i := 203) rfl)) rfl
set_option maxRecDepth 100000 in
theorem qw444 : (Cond.instanceMethod yX1_tripleOver) ∈ LA := LA_t (LT2 (List.mem_of_getElem? (i := 204) rfl)) rfl
set_option maxRecDepth 100000 in
theorem qw445 : (Cond.selects RX1 yX1_tripleOver yX1_tripleOver) ∈ LA := LA_t (LT2 (List.mem_of_getElem? (i := 205) rfl)) rfl
set_option maxRecDepth 100000 in
theorem qw446 : (Cond.code yX1_tripleOver cX1_tripleOver 4 (some .int)) ∈ LA := LA_t (LT2 (List.mem_of_getElem? (i := 206) rfl)) rfl
set_option maxRecDepth 100000 in
theorem qw447 : (Cond.methodLink RX1 74 yX1_tripleCells) ∈ LA := LA_t (LT2 (List.mem_of_getElem? (i := 207) rfl)) rfl
set_option maxRecDepth 100000 in
theorem qw449 : (Cond.instanceMethod yX1_tripleCells) ∈ LA := LA_t (LT2 (List.mem_of_getElem? (i := 209) rfl)) rfl
set_option maxRecDepth 100000 in
theorem qw450 : (Cond.code yX1_tripleCells cX1_tripleCells 3 (some .long)) ∈ LA := LA_t (LT2 (List.mem_of_getElem? (i := 210) rfl)) rfl
set_option maxRecDepth 100000 in
theorem qw451 : (Cond.methodLink RX1 78 yX1_tripleName) ∈ LA := LA_t (LT2 (List.mem_of_getElem? (i := 211) rfl)) rfl
set_option maxRecDepth 100000 in
theorem qw452 : (Cond.instanceMethod yX1_tripleName) ∈ LA := LA_t (LT2 (List.mem_of_getElem? (i := 212) rfl)) rfl
set_option maxRecDepth 100000 in
theorem qw453 : (Cond.selects RX1 yX1_tripleName yX1_tripleName) ∈ LA := LA_t (LT2 (List.mem_of_getElem? (i := 213) rfl)) rfl
set_option maxRecDepth 100000 in
theorem qw454 : (Cond.code yX1_tripleName cX1_tripleName 2 (some .int)) ∈ LA := LA_t (LT2 (List.mem_of_getElem? (i := 214) rfl)) rfl
set_option maxRecDepth 100000 in
theorem qw455 : (Cond.methodLinkNest RX1 82 yX4_columnOf RX4) ∈ LN := LN_t (LT2 (List.mem_of_getElem? (i := 215) rfl)) rfl
set_option maxRecDepth 100000 in
theorem qw456 : (Cond.static yX4_columnOf) ∈ LA := LA_t (LT2 (List.mem_of_getElem? (i := 216) rfl)) rfl
set_option maxRecDepth 100000 in
theorem qw457 : (Cond.code yX4_columnOf cX4_columnOf 1 (some .int)) ∈ LA := LA_t (LT2 (List.mem_of_getElem? (i := 217) rfl)) rfl
set_option maxRecDepth 100000 in
theorem qw458 : (Cond.methodLinkNest RX1 85 yX4_rowOf RX4) ∈ LN := LN_t (LT2 (List.mem_of_getElem? (i := 218) rfl)) rfl
set_option maxRecDepth 100000 in
theorem qw459 : (Cond.static yX4_rowOf) ∈ LA := LA_t (LT2 (List.mem_of_getElem? (i := 219) rfl)) rfl
set_option maxRecDepth 100000 in
theorem qw460 : (Cond.code yX4_rowOf cX4_rowOf 1 (some .int)) ∈ LA := LA_t (LT2 (List.mem_of_getElem? (i := 220) rfl)) rfl
set_option maxRecDepth 100000 in
theorem qw461 : (Cond.methodLinkNest RX1 88 yX4_turnOf RX4) ∈ LN := LN_t (LT2 (List.mem_of_getElem? (i := 221) rfl)) rfl
set_option maxRecDepth 100000 in
theorem qw462 : (Cond.static yX4_turnOf) ∈ LA := LA_t (LT2 (List.mem_of_getElem? (i := 222) rfl)) rfl
set_option maxRecDepth 100000 in
theorem qw463 : (Cond.code yX4_turnOf cX4_turnOf 1 (some .int)) ∈ LA := LA_t (LT2 (List.mem_of_getElem? (i := 223) rfl)) rfl
set_option maxRecDepth 100000 in
theorem qw464 : (Cond.methodLink RX1 122 yX1_lastFlipCell) ∈ LA := LA_t (LT2 (List.mem_of_getElem? (i := 224) rfl)) rfl
set_option maxRecDepth 100000 in
theorem qw465 : (Cond.static yX1_lastFlipCell) ∈ LA := LA_t (LT2 (List.mem_of_getElem? (i := 225) rfl)) rfl
set_option maxRecDepth 100000 in
theorem qw466 : (Cond.code yX1_lastFlipCell cX1_lastFlipCell 3 (some .long)) ∈ LA := LA_t (LT2 (List.mem_of_getElem? (i := 226) rfl)) rfl
set_option maxRecDepth 100000 in
theorem qw467 : (Cond.methodLink RX4 213 yJx4a65c_size_8abf5) ∈ LA := LA_t (LT2 (List.mem_of_getElem? (i := 227) rfl)) rfl
set_option maxRecDepth 100000 in
theorem qw468 : (Cond.instanceMethod yJx4a65c_size_8abf5) ∈ LA := LA_t (LT2 (List.mem_of_getElem? (i := 228) rfl)) rfl
set_option maxRecDepth 100000 in
theorem qw469 : (Cond.selects RJx4a65c yJx4a65c_size_8abf5 yJx4a65c_size_8abf5) ∈ LA := LA_t (LT2 (List.mem_of_getElem? (i := 229) rfl)) rfl
set_option maxRecDepth 100000 in
theorem qw470 : (Cond.code yJx4a65c_size_8abf5 cJx4a65c_size_8abf5 1 (some .int)) ∈ LA := LA_t (LT2 (List.mem_of_getElem? (i := 230) rfl)) rfl
set_option maxRecDepth 100000 in
theorem qw471 : (Cond.classLink RX4 45 "java/lang/IllegalArgumentException") ∈ LA := LA_t (LT2 (List.mem_of_getElem? (i := 231) rfl)) rfl
set_option maxRecDepth 100000 in
theorem qw472 : (Cond.instantiable "java/lang/IllegalArgumentException" 6) ∈ LA := LA_t (LT2 (List.mem_of_getElem? (i := 232) rfl)) rfl
set_option maxRecDepth 100000 in
theorem qw473 : (Cond.castable "java/lang/IllegalArgumentException" "java/lang/IllegalArgumentException") ∈ LN := LN_t (LT2 (List.mem_of_getElem? (i := 233) rfl)) rfl
set_option maxRecDepth 100000 in
theorem qw474 : (Cond.declares ⟨"java/lang/RuntimeException", "<init>", "()V"⟩) ∈ LN := LN_t (LT2 (List.mem_of_getElem? (i := 234) rfl)) rfl
set_option maxRecDepth 100000 in
theorem qw475 : (Cond.declares ⟨"java/lang/RuntimeException", "<init>", "(Ljava/lang/String;)V"⟩) ∈ LN := LN_t (LT2 (List.mem_of_getElem? (i := 235) rfl)) rfl
set_option maxRecDepth 100000 in
theorem qw476 : (Cond.declares ⟨"java/lang/Exception", "<init>", "()V"⟩) ∈ LN := LN_t (LT2 (List.mem_of_getElem? (i := 236) rfl)) rfl
set_option maxRecDepth 100000 in
theorem qw477 : (Cond.declares ⟨"java/lang/Exception", "<init>", "(Ljava/lang/String;)V"⟩) ∈ LN := LN_t (LT2 (List.mem_of_getElem? (i := 237) rfl)) rfl
set_option maxRecDepth 100000 in
theorem qw478 : (Cond.declares ⟨"java/lang/Throwable", "<init>", "()V"⟩) ∈ LN := LN_t (LT2 (List.mem_of_getElem? (i := 238) rfl)) rfl
set_option maxRecDepth 100000 in
theorem qw479 : (Cond.declares ⟨"java/lang/Throwable", "<init>", "(Ljava/lang/String;)V"⟩) ∈ LN := LN_t (LT2 (List.mem_of_getElem? (i := 239) rfl)) rfl
set_option maxRecDepth 100000 in
theorem qw480 : (Cond.selects "java/lang/IllegalArgumentException" ⟨"java/lang/Throwable", "fillInStackTrace", "(I)Ljava/lang/Throwable;"⟩ ⟨"java/lang/Throwable", "fillInStackTrace", "(I)Ljava/lang/Throwable;"⟩) ∈ LA := LA_t (LT3 (List.mem_of_getElem? (i := 0) rfl)) rfl
set_option maxRecDepth 100000 in
theorem qw481 : (Cond.selects "java/lang/IllegalArgumentException" ⟨"java/lang/Throwable", "fillInStackTrace", "()Ljava/lang/Throwable;"⟩ ⟨"java/lang/Throwable", "fillInStackTrace", "()Ljava/lang/Throwable;"⟩) ∈ LA := LA_t (LT3 (List.mem_of_getElem? (i := 1) rfl)) rfl
set_option maxRecDepth 100000 in
theorem qw482 : (Cond.lays "java/lang/IllegalArgumentException" "java/lang/Throwable" "cause" "Ljava/lang/Throwable;") ∈ LA := LA_t (LT3 (List.mem_of_getElem? (i := 2) rfl)) rfl
set_option maxRecDepth 100000 in
theorem qw483 : (Cond.lays "java/lang/Throwable" "java/lang/Throwable" "cause" "Ljava/lang/Throwable;") ∈ LA := LA_t (LT3 (List.mem_of_getElem? (i := 3) rfl)) rfl
set_option maxRecDepth 100000 in
theorem qw484 : (Cond.lays "java/lang/IllegalArgumentException" "java/lang/Throwable" "stackTrace" "[Ljava/lang/StackTraceElement;") ∈ LA := LA_t (LT3 (List.mem_of_getElem? (i := 4) rfl)) rfl
set_option maxRecDepth 100000 in
theorem qw485 : (Cond.lays "java/lang/Throwable" "java/lang/Throwable" "stackTrace" "[Ljava/lang/StackTraceElement;") ∈ LA := LA_t (LT3 (List.mem_of_getElem? (i := 5) rfl)) rfl
set_option maxRecDepth 100000 in
theorem qw486 : (Cond.lays "java/lang/IllegalArgumentException" "java/lang/Throwable" "suppressedExceptions" "Ljava/util/List;") ∈ LA := LA_t (LT3 (List.mem_of_getElem? (i := 6) rfl)) rfl
set_option maxRecDepth 100000 in
theorem qw487 : (Cond.lays "java/lang/Throwable" "java/lang/Throwable" "suppressedExceptions" "Ljava/util/List;") ∈ LA := LA_t (LT3 (List.mem_of_getElem? (i := 7) rfl)) rfl
set_option maxRecDepth 100000 in
theorem qw488 : (Cond.lays "java/lang/IllegalArgumentException" "java/lang/Throwable" "detailMessage" "Ljava/lang/String;") ∈ LA := LA_t (LT3 (List.mem_of_getElem? (i := 8) rfl)) rfl
set_option maxRecDepth 100000 in
theorem qw489 : (Cond.lays "java/lang/Throwable" "java/lang/Throwable" "detailMessage" "Ljava/lang/String;") ∈ LA := LA_t (LT3 (List.mem_of_getElem? (i := 9) rfl)) rfl
set_option maxRecDepth 100000 in
theorem qw490 : (Cond.lays "java/lang/IllegalArgumentException" "java/lang/Throwable" "backtrace" "Ljava/lang/Object;") ∈ LA := LA_t (LT3 (List.mem_of_getElem? (i := 10) rfl)) rfl
set_option maxRecDepth 100000 in
theorem qw491 : (Cond.lays "java/lang/Throwable" "java/lang/Throwable" "backtrace" "Ljava/lang/Object;") ∈ LA := LA_t (LT3 (List.mem_of_getElem? (i := 11) rfl)) rfl
set_option maxRecDepth 100000 in
theorem qw492 : (Cond.fieldLink "java/lang/Throwable" 198 "java/lang/Throwable" "backtrace" "Ljava/lang/Object;") ∈ LA := LA_t (LT3 (List.mem_of_getElem? (i := 12) rfl)) rfl
set_option maxRecDepth 100000 in
theorem qw494 : (Cond.instanceMethod ⟨"java/lang/Throwable", "<init>", "()V"⟩) ∈ LA := LA_t (LT3 (List.mem_of_getElem? (i := 14) rfl)) rfl
set_option maxRecDepth 100000 in
theorem qw495 : (Cond.code ⟨"java/lang/Throwable", "<init>", "()V"⟩ prog_25_method_1_code 1 none) ∈ LA := LA_t (LT3 (List.mem_of_getElem? (i := 15) rfl)) rfl
set_option maxRecDepth 100000 in
theorem qw496 : (Cond.methodLink "java/lang/Throwable" 1 objectInit) ∈ LA := LA_t (LT3 (List.mem_of_getElem? (i := 16) rfl)) rfl
set_option maxRecDepth 100000 in
theorem qw497 : (Cond.fieldLink "java/lang/Throwable" 13 "java/lang/Throwable" "UNASSIGNED_STACK" "[Ljava/lang/StackTraceElement;") ∈ LA := LA_t (LT3 (List.mem_of_getElem? (i := 17) rfl)) rfl
set_option maxRecDepth 100000 in
theorem qw499 : (Cond.fieldLink "java/lang/Throwable" 20 "java/lang/Throwable" "SUPPRESSED_SENTINEL" "Ljava/util/List;") ∈ LA := LA_t (LT3 (List.mem_of_getElem? (i := 19) rfl)) rfl
set_option maxRecDepth 100000 in
theorem qw501 : (Cond.methodLink "java/lang/Throwable" 27 ⟨"java/lang/Throwable", "fillInStackTrace", "()Ljava/lang/Throwable;"⟩) ∈ LA := LA_t (LT3 (List.mem_of_getElem? (i := 21) rfl)) rfl
set_option maxRecDepth 100000 in
theorem qw502 : (Cond.instanceMethod ⟨"java/lang/Throwable", "fillInStackTrace", "()Ljava/lang/Throwable;"⟩) ∈ LA := LA_t (LT3 (List.mem_of_getElem? (i := 22) rfl)) rfl
set_option maxRecDepth 100000 in
theorem qw503 : (Cond.sameMethod "java/lang/Throwable" "java/lang/Throwable" "fillInStackTrace" "()Ljava/lang/Throwable;") ∈ LA := LA_t (LT3 (List.mem_of_getElem? (i := 23) rfl)) rfl
set_option maxRecDepth 100000 in
theorem qw504 : (Cond.selects "java/lang/IllegalStateException" ⟨"java/lang/Throwable", "fillInStackTrace", "()Ljava/lang/Throwable;"⟩ ⟨"java/lang/Throwable", "fillInStackTrace", "()Ljava/lang/Throwable;"⟩) ∈ LA := LA_t (LT3 (List.mem_of_getElem? (i := 24) rfl)) rfl
set_option maxRecDepth 100000 in
theorem qw505 : (Cond.selects "java/lang/IndexOutOfBoundsException" ⟨"java/lang/Throwable", "fillInStackTrace", "()Ljava/lang/Throwable;"⟩ ⟨"java/lang/Throwable", "fillInStackTrace", "()Ljava/lang/Throwable;"⟩) ∈ LA := LA_t (LT3 (List.mem_of_getElem? (i := 25) rfl)) rfl
set_option maxRecDepth 100000 in
theorem qw507 : (Cond.methodLink "java/lang/Throwable" 202 ⟨"java/lang/Throwable", "fillInStackTrace", "(I)Ljava/lang/Throwable;"⟩) ∈ LA := LA_t (LT3 (List.mem_of_getElem? (i := 27) rfl)) rfl
set_option maxRecDepth 100000 in
theorem qw509 : (Cond.instanceMethod ⟨"java/lang/Throwable", "fillInStackTrace", "(I)Ljava/lang/Throwable;"⟩) ∈ LA := LA_t (LT3 (List.mem_of_getElem? (i := 29) rfl)) rfl
set_option maxRecDepth 100000 in
theorem qw510 : (Cond.instantiable "java/lang/Throwable" 6) ∈ LA := LA_t (LT3 (List.mem_of_getElem? (i := 30) rfl)) rfl
set_option maxRecDepth 100000 in
theorem qw511 : (Cond.native ⟨"java/lang/Throwable", "fillInStackTrace", "(I)Ljava/lang/Throwable;"⟩) ∈ LA := LA_t (LT3 (List.mem_of_getElem? (i := 31) rfl)) rfl
set_option maxRecDepth 100000 in
theorem qw513 : (Cond.methodLink RX4 49 ⟨"java/lang/IllegalArgumentException", "<init>", "(Ljava/lang/String;)V"⟩) ∈ LA := LA_t (LT3 (List.mem_of_getElem? (i := 33) rfl)) rfl
set_option maxRecDepth 100000 in
theorem qw514 : (Cond.instanceMethod ⟨"java/lang/IllegalArgumentException", "<init>", "(Ljava/lang/String;)V"⟩) ∈ LA := LA_t (LT3 (List.mem_of_getElem? (i := 34) rfl)) rfl
set_option maxRecDepth 100000 in
theorem qw515 : (Cond.code ⟨"java/lang/IllegalArgumentException", "<init>", "(Ljava/lang/String;)V"⟩ prog_14_method_2_code 2 none) ∈ LA := LA_t (LT3 (List.mem_of_getElem? (i := 35) rfl)) rfl
set_option maxRecDepth 100000 in
theorem qw516 : (Cond.methodLink "java/lang/IllegalArgumentException" 7 ⟨"java/lang/RuntimeException", "<init>", "(Ljava/lang/String;)V"⟩) ∈ LA := LA_t (LT3 (List.mem_of_getElem? (i := 36) rfl)) rfl
set_option maxRecDepth 100000 in
theorem qw517 : (Cond.instanceMethod ⟨"java/lang/RuntimeException", "<init>", "(Ljava/lang/String;)V"⟩) ∈ LA := LA_t (LT3 (List.mem_of_getElem? (i := 37) rfl)) rfl
set_option maxRecDepth 100000 in
theorem qw518 : (Cond.code ⟨"java/lang/RuntimeException", "<init>", "(Ljava/lang/String;)V"⟩ prog_22_method_2_code 2 none) ∈ LA := LA_t (LT3 (List.mem_of_getElem? (i := 38) rfl)) rfl
set_option maxRecDepth 100000 in
theorem qw519 : (Cond.methodLink "java/lang/RuntimeException" 7 ⟨"java/lang/Exception", "<init>", "(Ljava/lang/String;)V"⟩) ∈ LA := LA_t (LT3 (List.mem_of_getElem? (i := 39) rfl)) rfl
set_option maxRecDepth 100000 in
theorem qw520 : (Cond.instanceMethod ⟨"java/lang/Exception", "<init>", "(Ljava/lang/String;)V"⟩) ∈ LA := LA_t (LT3 (List.mem_of_getElem? (i := 40) rfl)) rfl
set_option maxRecDepth 100000 in
theorem qw521 : (Cond.code ⟨"java/lang/Exception", "<init>", "(Ljava/lang/String;)V"⟩ prog_13_method_2_code 2 none) ∈ LA := LA_t (LT3 (List.mem_of_getElem? (i := 41) rfl)) rfl
set_option maxRecDepth 100000 in
theorem qw522 : (Cond.methodLink "java/lang/Exception" 7 ⟨"java/lang/Throwable", "<init>", "(Ljava/lang/String;)V"⟩) ∈ LA := LA_t (LT3 (List.mem_of_getElem? (i := 42) rfl)) rfl
set_option maxRecDepth 100000 in
theorem qw523 : (Cond.instanceMethod ⟨"java/lang/Throwable", "<init>", "(Ljava/lang/String;)V"⟩) ∈ LA := LA_t (LT3 (List.mem_of_getElem? (i := 43) rfl)) rfl
set_option maxRecDepth 100000 in
theorem qw524 : (Cond.code ⟨"java/lang/Throwable", "<init>", "(Ljava/lang/String;)V"⟩ prog_25_method_2_code 2 none) ∈ LA := LA_t (LT3 (List.mem_of_getElem? (i := 44) rfl)) rfl
set_option maxRecDepth 100000 in
theorem qw525 : (Cond.fieldLink "java/lang/Throwable" 198 "java/lang/Throwable" "backtrace" "Ljava/lang/Object;") ∈ LA := LA_t (LT3 (List.mem_of_getElem? (i := 45) rfl)) rfl
set_option maxRecDepth 100000 in
theorem qw526 : (Cond.fieldLink "java/lang/Throwable" 31 "java/lang/Throwable" "detailMessage" "Ljava/lang/String;") ∈ LA := LA_t (LT3 (List.mem_of_getElem? (i := 46) rfl)) rfl
set_option maxRecDepth 100000 in
theorem qw527 : (Cond.fieldLink "java/lang/Throwable" 7 "java/lang/Throwable" "cause" "Ljava/lang/Throwable;") ∈ LA := LA_t (LT3 (List.mem_of_getElem? (i := 47) rfl)) rfl
set_option maxRecDepth 100000 in
theorem qw528 : (Cond.fieldLink "java/lang/Throwable" 17 "java/lang/Throwable" "stackTrace" "[Ljava/lang/StackTraceElement;") ∈ LA := LA_t (LT3 (List.mem_of_getElem? (i := 48) rfl)) rfl
set_option maxRecDepth 100000 in
theorem qw529 : (Cond.fieldLink "java/lang/Throwable" 24 "java/lang/Throwable" "suppressedExceptions" "Ljava/util/List;") ∈ LA := LA_t (LT3 (List.mem_of_getElem? (i := 49) rfl)) rfl
set_option maxRecDepth 100000 in
theorem qw534 : (Cond.lays "java/lang/IllegalArgumentException" "java/lang/Throwable" "depth" "I") ∈ LA := LA_t (LT3 (List.mem_of_getElem? (i := 54) rfl)) rfl
set_option maxRecDepth 100000 in
theorem qw538 : (Cond.arrayClass .byte) ∈ LA := LA_t (LT3 (List.mem_of_getElem? (i := 58) rfl)) rfl
set_option maxRecDepth 100000 in
theorem qw539 : (Cond.methodLink RX4 289 yX4_mixed) ∈ LA := LA_t (LT3 (List.mem_of_getElem? (i := 59) rfl)) rfl
set_option maxRecDepth 100000 in
theorem qw540 : (Cond.static yX4_mixed) ∈ LA := LA_t (LT3 (List.mem_of_getElem? (i := 60) rfl)) rfl
set_option maxRecDepth 100000 in
theorem qw541 : (Cond.code yX4_mixed cX4_mixed 4 (some .long)) ∈ LA := LA_t (LT3 (List.mem_of_getElem? (i := 61) rfl)) rfl
set_option maxRecDepth 100000 in
theorem qw542 : (Cond.constantLong RX4 329 31) ∈ LA := LA_t (LT3 (List.mem_of_getElem? (i := 62) rfl)) rfl
set_option maxRecDepth 100000 in
theorem qw543 : (Cond.methodLink RX4 293 yX4_mixedRows) ∈ LA := LA_t (LT3 (List.mem_of_getElem? (i := 63) rfl)) rfl
set_option maxRecDepth 100000 in
theorem qw545 : (Cond.instanceMethod yX4_mixedRows) ∈ LA := LA_t (LT3 (List.mem_of_getElem? (i := 65) rfl)) rfl
set_option maxRecDepth 100000 in
theorem qw546 : (Cond.code yX4_mixedRows cX4_mixedRows 7 (some .long)) ∈ LA := LA_t (LT3 (List.mem_of_getElem? (i := 66) rfl)) rfl
set_option maxRecDepth 100000 in
theorem qw547 : (Cond.methodLink RX4 331 yX4_row) ∈ LA := LA_t (LT3 (List.mem_of_getElem? (i := 67) rfl)) rfl
set_option maxRecDepth 100000 in
theorem qw548 : (Cond.instanceMethod yX4_row) ∈ LA := LA_t (LT3 (List.mem_of_getElem? (i := 68) rfl)) rfl
set_option maxRecDepth 100000 in
theorem qw549 : (Cond.selects RX4 yX4_row yX4_row) ∈ LA := LA_t (LT3 (List.mem_of_getElem? (i := 69) rfl)) rfl
set_option maxRecDepth 100000 in
theorem qw550 : (Cond.code yX4_row cX4_row 3 (some .int)) ∈ LA := LA_t (LT3 (List.mem_of_getElem? (i := 70) rfl)) rfl
set_option maxRecDepth 100000 in
theorem qw551 : (Cond.classLink RX4 130 "java/lang/IndexOutOfBoundsException") ∈ LA := LA_t (LT3 (List.mem_of_getElem? (i := 71) rfl)) rfl
set_option maxRecDepth 100000 in
theorem qw552 : (Cond.instantiable "java/lang/IndexOutOfBoundsException" 6) ∈ LA := LA_t (LT3 (List.mem_of_getElem? (i := 72) rfl)) rfl
set_option maxRecDepth 100000 in
theorem qw553 : (Cond.castable "java/lang/IndexOutOfBoundsException" "java/lang/IndexOutOfBoundsException") ∈ LN := LN_t (LT3 (List.mem_of_getElem? (i := 73) rfl)) rfl
set_option maxRecDepth 100000 in
theorem qw554 : (Cond.selects "java/lang/IndexOutOfBoundsException" ⟨"java/lang/Throwable", "fillInStackTrace", "(I)Ljava/lang/Throwable;"⟩ ⟨"java/lang/Throwable", "fillInStackTrace", "(I)Ljava/lang/Throwable;"⟩) ∈ LA := LA_t (LT3 (List.mem_of_getElem? (i := 74) rfl)) rfl
set_option maxRecDepth 100000 in
theorem qw555 : (Cond.lays "java/lang/IndexOutOfBoundsException" "java/lang/Throwable" "cause" "Ljava/lang/Throwable;") ∈ LA := LA_t (LT3 (List.mem_of_getElem? (i := 75) rfl)) rfl
set_option maxRecDepth 100000 in
theorem qw556 : (Cond.lays "java/lang/IndexOutOfBoundsException" "java/lang/Throwable" "stackTrace" "[Ljava/lang/StackTraceElement;") ∈ LA := LA_t (LT3 (List.mem_of_getElem? (i := 76) rfl)) rfl
set_option maxRecDepth 100000 in
theorem qw557 : (Cond.lays "java/lang/IndexOutOfBoundsException" "java/lang/Throwable" "suppressedExceptions" "Ljava/util/List;") ∈ LA := LA_t (LT3 (List.mem_of_getElem? (i := 77) rfl)) rfl
set_option maxRecDepth 100000 in
theorem qw558 : (Cond.lays "java/lang/IndexOutOfBoundsException" "java/lang/Throwable" "detailMessage" "Ljava/lang/String;") ∈ LA := LA_t (LT3 (List.mem_of_getElem? (i := 78) rfl)) rfl
set_option maxRecDepth 100000 in
theorem qw559 : (Cond.lays "java/lang/IndexOutOfBoundsException" "java/lang/Throwable" "backtrace" "Ljava/lang/Object;") ∈ LA := LA_t (LT3 (List.mem_of_getElem? (i := 79) rfl)) rfl
set_option maxRecDepth 100000 in
theorem qw561 : (Cond.methodLink RX4 134 ⟨"java/lang/IndexOutOfBoundsException", "<init>", "(Ljava/lang/String;)V"⟩) ∈ LA := LA_t (LT3 (List.mem_of_getElem? (i := 81) rfl)) rfl
set_option maxRecDepth 100000 in
theorem qw562 : (Cond.instanceMethod ⟨"java/lang/IndexOutOfBoundsException", "<init>", "(Ljava/lang/String;)V"⟩) ∈ LA := LA_t (LT3 (List.mem_of_getElem? (i := 82) rfl)) rfl
set_option maxRecDepth 100000 in
theorem qw563 : (Cond.code ⟨"java/lang/IndexOutOfBoundsException", "<init>", "(Ljava/lang/String;)V"⟩ prog_16_method_2_code 2 none) ∈ LA := LA_t (LT3 (List.mem_of_getElem? (i := 83) rfl)) rfl
set_option maxRecDepth 100000 in
theorem qw564 : (Cond.methodLink "java/lang/IndexOutOfBoundsException" 7 ⟨"java/lang/RuntimeException", "<init>", "(Ljava/lang/String;)V"⟩) ∈ LA := LA_t (LT3 (List.mem_of_getElem? (i := 84) rfl)) rfl
set_option maxRecDepth 100000 in
theorem qw565 : (Cond.lays "java/lang/IndexOutOfBoundsException" "java/lang/Throwable" "depth" "I") ∈ LA := LA_t (LT3 (List.mem_of_getElem? (i := 85) rfl)) rfl
set_option maxRecDepth 100000 in
theorem qw567 : (Cond.methodLink RX4 226 yX4_requireProperty) ∈ LA := LA_t (LT3 (List.mem_of_getElem? (i := 87) rfl)) rfl
set_option maxRecDepth 100000 in
theorem qw568 : (Cond.static yX4_requireProperty) ∈ LA := LA_t (LT3 (List.mem_of_getElem? (i := 88) rfl)) rfl
set_option maxRecDepth 100000 in
theorem qw569 : (Cond.code yX4_requireProperty cX4_requireProperty 1 none) ∈ LA := LA_t (LT3 (List.mem_of_getElem? (i := 89) rfl)) rfl
set_option maxRecDepth 100000 in
theorem qw571 : (Cond.methodLink RX4 254 yX4_rowMask) ∈ LA := LA_t (LT3 (List.mem_of_getElem? (i := 91) rfl)) rfl
set_option maxRecDepth 100000 in
theorem qw572 : (Cond.static yX4_rowMask) ∈ LA := LA_t (LT3 (List.mem_of_getElem? (i := 92) rfl)) rfl
set_option maxRecDepth 100000 in
theorem qw573 : (Cond.code yX4_rowMask cX4_rowMask 3 (some .int)) ∈ LA := LA_t (LT3 (List.mem_of_getElem? (i := 93) rfl)) rfl
set_option maxRecDepth 100000 in
theorem qw574 : (Cond.constantLong RX4 363 255) ∈ LA := LA_t (LT3 (List.mem_of_getElem? (i := 94) rfl)) rfl
set_option maxRecDepth 100000 in
theorem qw575 : (Cond.methodLink RX4 297 yX4_mixedCells) ∈ LA := LA_t (LT3 (List.mem_of_getElem? (i := 95) rfl)) rfl
set_option maxRecDepth 100000 in
theorem qw577 : (Cond.instanceMethod yX4_mixedCells) ∈ LA := LA_t (LT3 (List.mem_of_getElem? (i := 97) rfl)) rfl
set_option maxRecDepth 100000 in
theorem qw578 : (Cond.code yX4_mixedCells cX4_mixedCells 7 (some .long)) ∈ LA := LA_t (LT3 (List.mem_of_getElem? (i := 98) rfl)) rfl
set_option maxRecDepth 100000 in
theorem qw579 : (Cond.methodLink RX4 333 yX4_cell) ∈ LA := LA_t (LT3 (List.mem_of_getElem? (i := 99) rfl)) rfl
set_option maxRecDepth 100000 in
theorem qw580 : (Cond.instanceMethod yX4_cell) ∈ LA := LA_t (LT3 (List.mem_of_getElem? (i := 100) rfl)) rfl
set_option maxRecDepth 100000 in
theorem qw581 : (Cond.selects RX4 yX4_cell yX4_cell) ∈ LA := LA_t (LT3 (List.mem_of_getElem? (i := 101) rfl)) rfl
set_option maxRecDepth 100000 in
theorem qw582 : (Cond.code yX4_cell cX4_cell 4 (some .int)) ∈ LA := LA_t (LT3 (List.mem_of_getElem? (i := 102) rfl)) rfl
set_option maxRecDepth 100000 in
theorem qw583 : (Cond.methodLink RX4 59 yX4_requireCell) ∈ LA := LA_t (LT3 (List.mem_of_getElem? (i := 103) rfl)) rfl
set_option maxRecDepth 100000 in
theorem qw585 : (Cond.instanceMethod yX4_requireCell) ∈ LA := LA_t (LT3 (List.mem_of_getElem? (i := 105) rfl)) rfl
set_option maxRecDepth 100000 in
theorem qw586 : (Cond.code yX4_requireCell cX4_requireCell 3 none) ∈ LA := LA_t (LT3 (List.mem_of_getElem? (i := 106) rfl)) rfl
set_option maxRecDepth 100000 in
theorem qw587 : (Cond.methodLink RX4 348 yX1_hasBlock) ∈ LA := LA_t (LT3 (List.mem_of_getElem? (i := 107) rfl)) rfl
set_option maxRecDepth 100000 in
theorem qw589 : (Cond.methodLink RX4 63 yX4_cellAt) ∈ LA := LA_t (LT3 (List.mem_of_getElem? (i := 109) rfl)) rfl
set_option maxRecDepth 100000 in
theorem qw590 : (Cond.methodLink RX4 229 yX1_kindOf) ∈ LA := LA_t (LT3 (List.mem_of_getElem? (i := 110) rfl)) rfl
set_option maxRecDepth 100000 in
theorem qw591 : (Cond.instanceMethod yX1_kindOf) ∈ LA := LA_t (LT3 (List.mem_of_getElem? (i := 111) rfl)) rfl
set_option maxRecDepth 100000 in
theorem qw592 : (Cond.selects RX1 yX1_kindOf yX1_kindOf) ∈ LA := LA_t (LT3 (List.mem_of_getElem? (i := 112) rfl)) rfl
set_option maxRecDepth 100000 in
theorem qw593 : (Cond.code yX1_kindOf cX1_kindOf 3 (some .int)) ∈ LA := LA_t (LT3 (List.mem_of_getElem? (i := 113) rfl)) rfl
set_option maxRecDepth 100000 in
theorem qw594 : (Cond.methodLink RX4 118 yX1_tripleOver) ∈ LA := LA_t (LT3 (List.mem_of_getElem? (i := 114) rfl)) rfl
set_option maxRecDepth 100000 in
theorem qw595 : (Cond.methodLink RX4 232 yX1_coverCount) ∈ LA := LA_t (LT3 (List.mem_of_getElem? (i := 115) rfl)) rfl
set_option maxRecDepth 100000 in
theorem qw596 : (Cond.methodLink RX4 300 yX4_mixedTriples) ∈ LA := LA_t (LT3 (List.mem_of_getElem? (i := 116) rfl)) rfl
set_option maxRecDepth 100000 in
theorem qw598 : (Cond.instanceMethod yX4_mixedTriples) ∈ LA := LA_t (LT3 (List.mem_of_getElem? (i := 118) rfl)) rfl
set_option maxRecDepth 100000 in
theorem qw599 : (Cond.code yX4_mixedTriples cX4_mixedTriples 7 (some .long)) ∈ LA := LA_t (LT3 (List.mem_of_getElem? (i := 119) rfl)) rfl
set_option maxRecDepth 100000 in
theorem qw600 : (Cond.methodLink RX4 336 yX4_triple) ∈ LA := LA_t (LT3 (List.mem_of_getElem? (i := 120) rfl)) rfl
set_option maxRecDepth 100000 in
theorem qw601 : (Cond.instanceMethod yX4_triple) ∈ LA := LA_t (LT3 (List.mem_of_getElem? (i := 121) rfl)) rfl
set_option maxRecDepth 100000 in
theorem qw602 : (Cond.selects RX4 yX4_triple yX4_triple) ∈ LA := LA_t (LT3 (List.mem_of_getElem? (i := 122) rfl)) rfl
set_option maxRecDepth 100000 in
theorem qw603 : (Cond.code yX4_triple cX4_triple 4 (some .int)) ∈ LA := LA_t (LT3 (List.mem_of_getElem? (i := 123) rfl)) rfl
set_option maxRecDepth 100000 in
theorem qw605 : (Cond.methodLink RX4 237 yX1_tripleName) ∈ LA := LA_t (LT3 (List.mem_of_getElem? (i := 125) rfl)) rfl
set_option maxRecDepth 100000 in
theorem qw606 : (Cond.methodLink RX4 240 yX4_columnOf) ∈ LA := LA_t (LT3 (List.mem_of_getElem? (i := 126) rfl)) rfl
set_option maxRecDepth 100000 in
theorem qw607 : (Cond.methodLink RX4 243 yX4_rowOf) ∈ LA := LA_t (LT3 (List.mem_of_getElem? (i := 127) rfl)) rfl
set_option maxRecDepth 100000 in
theorem qw608 : (Cond.methodLink RX4 246 yX4_turnOf) ∈ LA := LA_t (LT3 (List.mem_of_getElem? (i := 128) rfl)) rfl
set_option maxRecDepth 100000 in
theorem qw609 : (Cond.methodLink RX4 303 yX4_ways) ∈ LA := LA_t (LT3 (List.mem_of_getElem? (i := 129) rfl)) rfl
set_option maxRecDepth 100000 in
theorem qw610 : (Cond.methodLink RX4 306 yX4_waysWith) ∈ LA := LA_t (LT3 (List.mem_of_getElem? (i := 130) rfl)) rfl
set_option maxRecDepth 100000 in
theorem qw611 : (Cond.instanceMethod yX4_waysWith) ∈ LA := LA_t (LT3 (List.mem_of_getElem? (i := 131) rfl)) rfl
set_option maxRecDepth 100000 in
theorem qw612 : (Cond.selects RX4 yX4_waysWith yX4_waysWith) ∈ LA := LA_t (LT3 (List.mem_of_getElem? (i := 132) rfl)) rfl
set_option maxRecDepth 100000 in
theorem qw613 : (Cond.code yX4_waysWith cX4_waysWith 4 (some .int)) ∈ LA := LA_t (LT3 (List.mem_of_getElem? (i := 133) rfl)) rfl
set_option maxRecDepth 100000 in
theorem qw614 : (Cond.methodLink RX4 103 yX4_requireTurn) ∈ LA := LA_t (LT3 (List.mem_of_getElem? (i := 134) rfl)) rfl
set_option maxRecDepth 100000 in
theorem qw615 : (Cond.static yX4_requireTurn) ∈ LA := LA_t (LT3 (List.mem_of_getElem? (i := 135) rfl)) rfl
set_option maxRecDepth 100000 in
theorem qw616 : (Cond.code yX4_requireTurn cX4_requireTurn 1 none) ∈ LA := LA_t (LT3 (List.mem_of_getElem? (i := 136) rfl)) rfl
set_option maxRecDepth 100000 in
theorem qw618 : (Cond.methodLink RX4 107 yX1_whyRefused) ∈ LA := LA_t (LT3 (List.mem_of_getElem? (i := 138) rfl)) rfl
set_option maxRecDepth 100000 in
theorem qw619 : (Cond.methodLink RX4 267 yX4_cellsOf) ∈ LA := LA_t (LT3 (List.mem_of_getElem? (i := 139) rfl)) rfl
set_option maxRecDepth 100000 in
theorem qw620 : (Cond.constantLong RX4 271 (-1)) ∈ LA := LA_t (LT3 (List.mem_of_getElem? (i := 140) rfl)) rfl
set_option maxRecDepth 100000 in
theorem qw621 : (Cond.methodLink RX4 309 yX4_forced) ∈ LA := LA_t (LT3 (List.mem_of_getElem? (i := 141) rfl)) rfl
set_option maxRecDepth 100000 in
theorem qw622 : (Cond.instanceMethod yX4_forced) ∈ LA := LA_t (LT3 (List.mem_of_getElem? (i := 142) rfl)) rfl
set_option maxRecDepth 100000 in
theorem qw623 : (Cond.selects RX4 yX4_forced yX4_forced) ∈ LA := LA_t (LT3 (List.mem_of_getElem? (i := 143) rfl)) rfl
set_option maxRecDepth 100000 in
theorem qw624 : (Cond.code yX4_forced cX4_forced 3 (some .int)) ∈ LA := LA_t (LT3 (List.mem_of_getElem? (i := 144) rfl)) rfl
set_option maxRecDepth 100000 in
theorem qw626 : (Cond.methodLink RX4 278 yX1_firstCover) ∈ LA := LA_t (LT3 (List.mem_of_getElem? (i := 146) rfl)) rfl
set_option maxRecDepth 100000 in
theorem qw627 : (Cond.instanceMethod yX1_firstCover) ∈ LA := LA_t (LT3 (List.mem_of_getElem? (i := 147) rfl)) rfl
set_option maxRecDepth 100000 in
theorem qw628 : (Cond.selects RX1 yX1_firstCover yX1_firstCover) ∈ LA := LA_t (LT3 (List.mem_of_getElem? (i := 148) rfl)) rfl
set_option maxRecDepth 100000 in
theorem qw629 : (Cond.code yX1_firstCover cX1_firstCover 3 (some .int)) ∈ LA := LA_t (LT3 (List.mem_of_getElem? (i := 149) rfl)) rfl
set_option maxRecDepth 100000 in
theorem qw630 : (Cond.methodLinkNest RX1 70 yX4_nameOf RX4) ∈ LN := LN_t (LT3 (List.mem_of_getElem? (i := 150) rfl)) rfl
set_option maxRecDepth 100000 in
theorem qw631 : (Cond.static yX4_nameOf) ∈ LA := LA_t (LT3 (List.mem_of_getElem? (i := 151) rfl)) rfl
set_option maxRecDepth 100000 in
theorem qw632 : (Cond.code yX4_nameOf cX4_nameOf 3 (some .int)) ∈ LA := LA_t (LT3 (List.mem_of_getElem? (i := 152) rfl)) rfl
set_option maxRecDepth 100000 in
theorem qw633 : (Cond.methodLink RX4 312 yX4_lonely) ∈ LA := LA_t (LT3 (List.mem_of_getElem? (i := 153) rfl)) rfl
set_option maxRecDepth 100000 in
theorem qw634 : (Cond.methodLink RX4 315 yX4_pavedShare) ∈ LA := LA_t (LT3 (List.mem_of_getElem? (i := 154) rfl)) rfl
set_option maxRecDepth 100000 in
theorem qw635 : (Cond.methodLink RX4 319 yX4_shareBits) ∈ LA := LA_t (LT3 (List.mem_of_getElem? (i := 155) rfl)) rfl
set_option maxRecDepth 100000 in
theorem qw636 : (Cond.static yX4_shareBits) ∈ LA := LA_t (LT3 (List.mem_of_getElem? (i := 156) rfl)) rfl
set_option maxRecDepth 100000 in
theorem qw637 : (Cond.code yX4_shareBits cX4_shareBits 7 (some .long)) ∈ LA := LA_t (LT3 (List.mem_of_getElem? (i := 157) rfl)) rfl
set_option maxRecDepth 100000 in
theorem qw638 : (Cond.constantLong RX4 342 1023) ∈ LA := LA_t (LT3 (List.mem_of_getElem? (i := 158) rfl)) rfl
set_option maxRecDepth 100000 in
theorem qw639 : (Cond.constantDouble RX4 344 4611686018427387904) ∈ LA := LA_t (LT3 (List.mem_of_getElem? (i := 159) rfl)) rfl
set_option maxRecDepth 100000 in
theorem qw640 : (Cond.constantDouble RX4 346 4841369599423283200) ∈ LA := LA_t (LT3 (List.mem_of_getElem? (i := 160) rfl)) rfl
set_option maxRecDepth 100000 in
theorem qw641 : (Cond.methodLink RX4 323 yX4_mixedSlots) ∈ LA := LA_t (LT3 (List.mem_of_getElem? (i := 161) rfl)) rfl
set_option maxRecDepth 100000 in
theorem qw643 : (Cond.instanceMethod yX4_mixedSlots) ∈ LA := LA_t (LT3 (List.mem_of_getElem? (i := 163) rfl)) rfl
set_option maxRecDepth 100000 in
theorem qw644 : (Cond.code yX4_mixedSlots cX4_mixedSlots 6 (some .long)) ∈ LA := LA_t (LT3 (List.mem_of_getElem? (i := 164) rfl)) rfl
set_option maxRecDepth 100000 in
theorem qw645 : (Cond.methodLink RX4 326 yX4_mixedBuffer) ∈ LA := LA_t (LT3 (List.mem_of_getElem? (i := 165) rfl)) rfl
set_option maxRecDepth 100000 in
theorem qw647 : (Cond.instanceMethod yX4_mixedBuffer) ∈ LA := LA_t (LT3 (List.mem_of_getElem? (i := 167) rfl)) rfl
set_option maxRecDepth 100000 in
theorem qw648 : (Cond.code yX4_mixedBuffer cX4_mixedBuffer 6 (some .long)) ∈ LA := LA_t (LT3 (List.mem_of_getElem? (i := 168) rfl)) rfl
set_option maxRecDepth 100000 in
theorem qw649 : (Cond.methodLink RX4 339 yX0_codeAt) ∈ LA := LA_t (LT3 (List.mem_of_getElem? (i := 169) rfl)) rfl
set_option maxRecDepth 100000 in
theorem qw650 : (Cond.methodLink RL 84 yL_garden) ∈ LA := LA_t (LT3 (List.mem_of_getElem? (i := 170) rfl)) rfl
set_option maxRecDepth 100000 in
theorem qw651 : (Cond.static yL_garden) ∈ LA := LA_t (LT3 (List.mem_of_getElem? (i := 171) rfl)) rfl
set_option maxRecDepth 100000 in
theorem qw652 : (Cond.codeWith yL_garden cL_garden 5 (some .int) [(0, 10, 13, 13)]) ∈ LA := LA_t (LT3 (List.mem_of_getElem? (i := 172) rfl)) rfl
set_option maxRecDepth 100000 in
theorem qw653 : (Cond.classLink RL 13 "java/lang/IllegalArgumentException") ∈ LA := LA_t (LT3 (List.mem_of_getElem? (i := 173) rfl)) rfl
set_option maxRecDepth 100000 in
theorem qw654 : (Cond.methodLink RL 7 yX4_garden) ∈ LA := LA_t (LT3 (List.mem_of_getElem? (i := 174) rfl)) rfl
set_option maxRecDepth 100000 in
theorem qw655 : (Cond.instanceMethod yX4_garden) ∈ LA := LA_t (LT3 (List.mem_of_getElem? (i := 175) rfl)) rfl
set_option maxRecDepth 100000 in
theorem qw656 : (Cond.selects RX4 yX4_garden yX4_garden) ∈ LA := LA_t (LT3 (List.mem_of_getElem? (i := 176) rfl)) rfl
set_option maxRecDepth 100000 in
theorem qw657 : (Cond.code yX4_garden cX4_garden 3 (some .int)) ∈ LA := LA_t (LT3 (List.mem_of_getElem? (i := 177) rfl)) rfl
set_option maxRecDepth 100000 in
theorem qw658 : (Cond.methodLink RX4 41 yX4_isSide) ∈ LA := LA_t (LT3 (List.mem_of_getElem? (i := 178) rfl)) rfl
set_option maxRecDepth 100000 in
theorem qw659 : (Cond.static yX4_isSide) ∈ LA := LA_t (LT3 (List.mem_of_getElem? (i := 179) rfl)) rfl
set_option maxRecDepth 100000 in
theorem qw660 : (Cond.code yX4_isSide cX4_isSide 1 (some .boolean)) ∈ LA := LA_t (LT3 (List.mem_of_getElem? (i := 180) rfl)) rfl
set_option maxRecDepth 100000 in
theorem qw662 : (Cond.methodLink RX4 52 yX4_saveState) ∈ LA := LA_t (LT3 (List.mem_of_getElem? (i := 182) rfl)) rfl
set_option maxRecDepth 100000 in
theorem qw664 : (Cond.instanceMethod yX4_saveState) ∈ LA := LA_t (LT3 (List.mem_of_getElem? (i := 184) rfl)) rfl
set_option maxRecDepth 100000 in
theorem qw665 : (Cond.code yX4_saveState cX4_saveState 1 none) ∈ LA := LA_t (LT3 (List.mem_of_getElem? (i := 185) rfl)) rfl
set_option maxRecDepth 100000 in
theorem qw666 : (Cond.methodLink RX4 223 yJx4a65c_remove_915e3) ∈ LA := LA_t (LT3 (List.mem_of_getElem? (i := 186) rfl)) rfl
set_option maxRecDepth 100000 in
theorem qw667 : (Cond.instanceMethod yJx4a65c_remove_915e3) ∈ LA := LA_t (LT3 (List.mem_of_getElem? (i := 187) rfl)) rfl
set_option maxRecDepth 100000 in
theorem qw668 : (Cond.selects RJx4a65c yJx4a65c_remove_915e3 yJx4a65c_remove_915e3) ∈ LA := LA_t (LT3 (List.mem_of_getElem? (i := 188) rfl)) rfl
set_option maxRecDepth 100000 in
theorem qw669 : (Cond.code yJx4a65c_remove_915e3 cJx4a65c_remove_915e3 4 (some (.object "java/lang/Object"))) ∈ LA := LA_t (LT3 (List.mem_of_getElem? (i := 189) rfl)) rfl
set_option maxRecDepth 100000 in
theorem qw670 : (Cond.methodLink RJx4a65c 118 yJ15_checkIndex_7cf53) ∈ LA := LA_t (LT3 (List.mem_of_getElem? (i := 190) rfl)) rfl
set_option maxRecDepth 100000 in
theorem qw671 : (Cond.static yJ15_checkIndex_7cf53) ∈ LA := LA_t (LT3 (List.mem_of_getElem? (i := 191) rfl)) rfl
set_option maxRecDepth 100000 in
theorem qw672 : (Cond.code yJ15_checkIndex_7cf53 cJ15_checkIndex_7cf53 2 (some .int)) ∈ LA := LA_t (LT3 (List.mem_of_getElem? (i := 192) rfl)) rfl
set_option maxRecDepth 100000 in
theorem qw673 : (Cond.methodLink RJ15 105 yJ3_checkIndex_8e157) ∈ LA := LA_t (LT3 (List.mem_of_getElem? (i := 193) rfl)) rfl
set_option maxRecDepth 100000 in
theorem qw674 : (Cond.static yJ3_checkIndex_8e157) ∈ LA := LA_t (LT3 (List.mem_of_getElem? (i := 194) rfl)) rfl
set_option maxRecDepth 100000 in
theorem qw675 : (Cond.code yJ3_checkIndex_8e157 cJ3_checkIndex_8e157 3 (some .int)) ∈ LA := LA_t (LT3 (List.mem_of_getElem? (i := 195) rfl)) rfl
set_option maxRecDepth 100000 in
theorem qw676 : (Cond.methodLink RJx4a65c 144 yJx4a65c_fastRemove_b59b0) ∈ LA := LA_t (LT3 (List.mem_of_getElem? (i := 196) rfl)) rfl
set_option maxRecDepth 100000 in
theorem qw678 : (Cond.instanceMethod yJx4a65c_fastRemove_b59b0) ∈ LA := LA_t (LT3 (List.mem_of_getElem? (i := 198) rfl)) rfl
set_option maxRecDepth 100000 in
theorem qw679 : (Cond.code yJx4a65c_fastRemove_b59b0 cJx4a65c_fastRemove_b59b0 4 none) ∈ LA := LA_t (LT3 (List.mem_of_getElem? (i := 199) rfl)) rfl
set_option maxRecDepth 100000 in
theorem qw680 : (Cond.methodLink RJx4a65c 112 arraycopyName) ∈ LA := LA_t (LT3 (List.mem_of_getElem? (i := 200) rfl)) rfl
set_option maxRecDepth 100000 in
theorem qw681 : (Cond.static arraycopyName) ∈ LA := LA_t (LT3 (List.mem_of_getElem? (i := 201) rfl)) rfl
set_option maxRecDepth 100000 in
theorem qw682 : (Cond.native arraycopyName) ∈ LA := LA_t (LT3 (List.mem_of_getElem? (i := 202) rfl)) rfl
set_option maxRecDepth 100000 in
theorem qw683 : (Cond.methodLink RX4 207 yX1_copied) ∈ LA := LA_t (LT3 (List.mem_of_getElem? (i := 203) rfl)) rfl
set_option maxRecDepth 100000 in
theorem qw684 : (Cond.instanceMethod yX1_copied) ∈ LA := LA_t (LT3 (List.mem_of_getElem? (i := 204) rfl)) rfl
set_option maxRecDepth 100000 in
theorem qw685 : (Cond.selects RX1 yX1_copied yX1_copied) ∈ LA := LA_t (LT3 (List.mem_of_getElem? (i := 205) rfl)) rfl
set_option maxRecDepth 100000 in
theorem qw686 : (Cond.code yX1_copied cX1_copied 2 (some (.object "BentGardens$Garden"))) ∈ LA := LA_t (LT3 (List.mem_of_getElem? (i := 206) rfl)) rfl
set_option maxRecDepth 100000 in
theorem qw687 : (Cond.classLink RX1 10 RX1) ∈ LA := LA_t (LT3 (List.mem_of_getElem? (i := 207) rfl)) rfl
set_option maxRecDepth 100000 in
theorem qw688 : (Cond.methodLink RX1 41 yX1_init) ∈ LA := LA_t (LT3 (List.mem_of_getElem? (i := 208) rfl)) rfl
set_option maxRecDepth 100000 in
theorem qw689 : (Cond.methodLink RX1 42 arraycopyName) ∈ LA := LA_t (LT3 (List.mem_of_getElem? (i := 209) rfl)) rfl
set_option maxRecDepth 100000 in
theorem qw690 : (Cond.methodLink RX4 360 yJx4a65c_add_9ea2d) ∈ LA := LA_t (LT3 (List.mem_of_getElem? (i := 210) rfl)) rfl
set_option maxRecDepth 100000 in
theorem qw691 : (Cond.instanceMethod yJx4a65c_add_9ea2d) ∈ LA := LA_t (LT3 (List.mem_of_getElem? (i := 211) rfl)) rfl
set_option maxRecDepth 100000 in
theorem qw692 : (Cond.selects RJx4a65c yJx4a65c_add_9ea2d yJx4a65c_add_9ea2d) ∈ LA := LA_t (LT3 (List.mem_of_getElem? (i := 212) rfl)) rfl
set_option maxRecDepth 100000 in
theorem qw693 : (Cond.code yJx4a65c_add_9ea2d cJx4a65c_add_9ea2d 2 (some .boolean)) ∈ LA := LA_t (LT3 (List.mem_of_getElem? (i := 213) rfl)) rfl
set_option maxRecDepth 100000 in
theorem qw694 : (Cond.methodLink RJx4a65c 131 yJx4a65c_add_72be8) ∈ LA := LA_t (LT3 (List.mem_of_getElem? (i := 214) rfl)) rfl
set_option maxRecDepth 100000 in
theorem qw696 : (Cond.instanceMethod yJx4a65c_add_72be8) ∈ LA := LA_t (LT3 (List.mem_of_getElem? (i := 216) rfl)) rfl
set_option maxRecDepth 100000 in
theorem qw697 : (Cond.code yJx4a65c_add_72be8 cJx4a65c_add_72be8 4 none) ∈ LA := LA_t (LT3 (List.mem_of_getElem? (i := 217) rfl)) rfl
set_option maxRecDepth 100000 in
theorem qw698 : (Cond.methodLink RJx4a65c 129 yJx4a65c_grow_d5877) ∈ LA := LA_t (LT3 (List.mem_of_getElem? (i := 218) rfl)) rfl
set_option maxRecDepth 100000 in
theorem qw700 : (Cond.instanceMethod yJx4a65c_grow_d5877) ∈ LA := LA_t (LT3 (List.mem_of_getElem? (i := 220) rfl)) rfl
set_option maxRecDepth 100000 in
theorem qw701 : (Cond.code yJx4a65c_grow_d5877 cJx4a65c_grow_d5877 1 (some (.array (.object "java/lang/Object")))) ∈ LA := LA_t (LT3 (List.mem_of_getElem? (i := 221) rfl)) rfl
set_option maxRecDepth 100000 in
theorem qw702 : (Cond.methodLink RJx4a65c 69 yJx4a65c_grow_92f84) ∈ LA := LA_t (LT3 (List.mem_of_getElem? (i := 222) rfl)) rfl
set_option maxRecDepth 100000 in
theorem qw704 : (Cond.instanceMethod yJx4a65c_grow_92f84) ∈ LA := LA_t (LT3 (List.mem_of_getElem? (i := 224) rfl)) rfl
set_option maxRecDepth 100000 in
theorem qw705 : (Cond.code yJx4a65c_grow_92f84 cJx4a65c_grow_92f84 4 (some (.array (.object "java/lang/Object")))) ∈ LA := LA_t (LT3 (List.mem_of_getElem? (i := 225) rfl)) rfl
set_option maxRecDepth 100000 in
theorem qw706 : (Cond.methodLink RJx4a65c 73 yJ8_newLength_cabcc) ∈ LA := LA_t (LT3 (List.mem_of_getElem? (i := 226) rfl)) rfl
set_option maxRecDepth 100000 in
theorem qw707 : (Cond.static yJ8_newLength_cabcc) ∈ LA := LA_t (LT3 (List.mem_of_getElem? (i := 227) rfl)) rfl
set_option maxRecDepth 100000 in
theorem qw708 : (Cond.code yJ8_newLength_cabcc cJ8_newLength_cabcc 4 (some .int)) ∈ LA := LA_t (LT3 (List.mem_of_getElem? (i := 228) rfl)) rfl
set_option maxRecDepth 100000 in
theorem qw709 : (Cond.methodLink RJ8 194 yJ9_max_7cf53) ∈ LA := LA_t (LT3 (List.mem_of_getElem? (i := 229) rfl)) rfl
set_option maxRecDepth 100000 in
theorem qw710 : (Cond.constant RJ8 200 2147483639) ∈ LA := LA_t (LT3 (List.mem_of_getElem? (i := 230) rfl)) rfl
set_option maxRecDepth 100000 in
theorem qw711 : (Cond.methodLink RJ8 201 yJ8_hugeLength_7cf53) ∈ LA := LA_t (LT3 (List.mem_of_getElem? (i := 231) rfl)) rfl
set_option maxRecDepth 100000 in
theorem qw712 : (Cond.static yJ8_hugeLength_7cf53) ∈ LA := LA_t (LT3 (List.mem_of_getElem? (i := 232) rfl)) rfl
set_option maxRecDepth 100000 in
theorem qw713 : (Cond.code yJ8_hugeLength_7cf53 cJ8_hugeLength_7cf53 3 (some .int)) ∈ LA := LA_t (LT3 (List.mem_of_getElem? (i := 233) rfl)) rfl
set_option maxRecDepth 100000 in
theorem qw714 : (Cond.methodLink RJx4a65c 66 yJ7_copyOf_1904c) ∈ LA := LA_t (LT3 (List.mem_of_getElem? (i := 234) rfl)) rfl
set_option maxRecDepth 100000 in
theorem qw715 : (Cond.static yJ7_copyOf_1904c) ∈ LA := LA_t (LT3 (List.mem_of_getElem? (i := 235) rfl)) rfl
set_option maxRecDepth 100000 in
theorem qw716 : (Cond.code yJ7_copyOf_1904c cJ7_copyOf_1904c 2 (some (.array (.object "java/lang/Object")))) ∈ LA := LA_t (LT3 (List.mem_of_getElem? (i := 236) rfl)) rfl
set_option maxRecDepth 100000 in
theorem qw717 : (Cond.methodLink RJ7 86 ⟨"java/lang/Object", "getClass", "()Ljava/lang/Class;"⟩) ∈ LA := LA_t (LT3 (List.mem_of_getElem? (i := 237) rfl)) rfl
set_option maxRecDepth 100000 in
theorem qw718 : (Cond.instanceMethod ⟨"java/lang/Object", "getClass", "()Ljava/lang/Class;"⟩) ∈ LA := LA_t (LT3 (List.mem_of_getElem? (i := 238) rfl)) rfl
set_option maxRecDepth 100000 in
theorem qw719 : (Cond.sameMethod "java/lang/Object" "java/lang/Object" "getClass" "()Ljava/lang/Class;") ∈ LA := LA_t (LT3 (List.mem_of_getElem? (i := 239) rfl)) rfl
set_option maxRecDepth 100000 in
theorem qw720 : (Cond.selects RX4 ⟨"java/lang/Object", "getClass", "()Ljava/lang/Class;"⟩ ⟨"java/lang/Object", "getClass", "()Ljava/lang/Class;"⟩) ∈ LA := LA_t (LT4 (List.mem_of_getElem? (i := 0) rfl)) rfl
set_option maxRecDepth 100000 in
theorem qw721 : (Cond.selects RX0 ⟨"java/lang/Object", "getClass", "()Ljava/lang/Class;"⟩ ⟨"java/lang/Object", "getClass", "()Ljava/lang/Class;"⟩) ∈ LA := LA_t (LT4 (List.mem_of_getElem? (i := 1) rfl)) rfl
set_option maxRecDepth 100000 in
theorem qw722 : (Cond.selects RX1 ⟨"java/lang/Object", "getClass", "()Ljava/lang/Class;"⟩ ⟨"java/lang/Object", "getClass", "()Ljava/lang/Class;"⟩) ∈ LA := LA_t (LT4 (List.mem_of_getElem? (i := 2) rfl)) rfl
set_option maxRecDepth 100000 in
theorem qw723 : (Cond.selects RX2 ⟨"java/lang/Object", "getClass", "()Ljava/lang/Class;"⟩ ⟨"java/lang/Object", "getClass", "()Ljava/lang/Class;"⟩) ∈ LA := LA_t (LT4 (List.mem_of_getElem? (i := 3) rfl)) rfl
set_option maxRecDepth 100000 in
theorem qw724 : (Cond.selects RX6 ⟨"java/lang/Object", "getClass", "()Ljava/lang/Class;"⟩ ⟨"java/lang/Object", "getClass", "()Ljava/lang/Class;"⟩) ∈ LA := LA_t (LT4 (List.mem_of_getElem? (i := 4) rfl)) rfl
set_option maxRecDepth 100000 in
theorem qw725 : (Cond.selects RX3 ⟨"java/lang/Object", "getClass", "()Ljava/lang/Class;"⟩ ⟨"java/lang/Object", "getClass", "()Ljava/lang/Class;"⟩) ∈ LA := LA_t (LT4 (List.mem_of_getElem? (i := 5) rfl)) rfl
set_option maxRecDepth 100000 in
theorem qw726 : (Cond.selects RX5 ⟨"java/lang/Object", "getClass", "()Ljava/lang/Class;"⟩ ⟨"java/lang/Object", "getClass", "()Ljava/lang/Class;"⟩) ∈ LA := LA_t (LT4 (List.mem_of_getElem? (i := 6) rfl)) rfl
set_option maxRecDepth 100000 in
theorem qw727 : (Cond.selects "java/lang/IllegalArgumentException" ⟨"java/lang/Object", "getClass", "()Ljava/lang/Class;"⟩ ⟨"java/lang/Object", "getClass", "()Ljava/lang/Class;"⟩) ∈ LA := LA_t (LT4 (List.mem_of_getElem? (i := 7) rfl)) rfl
set_option maxRecDepth 100000 in
theorem qw728 : (Cond.selects "java/lang/IllegalStateException" ⟨"java/lang/Object", "getClass", "()Ljava/lang/Class;"⟩ ⟨"java/lang/Object", "getClass", "()Ljava/lang/Class;"⟩) ∈ LA := LA_t (LT4 (List.mem_of_getElem? (i := 8) rfl)) rfl
set_option maxRecDepth 100000 in
theorem qw729 : (Cond.selects "java/lang/IndexOutOfBoundsException" ⟨"java/lang/Object", "getClass", "()Ljava/lang/Class;"⟩ ⟨"java/lang/Object", "getClass", "()Ljava/lang/Class;"⟩) ∈ LA := LA_t (LT4 (List.mem_of_getElem? (i := 9) rfl)) rfl
set_option maxRecDepth 100000 in
theorem qw730 : (Cond.selects RJx4a65c ⟨"java/lang/Object", "getClass", "()Ljava/lang/Class;"⟩ ⟨"java/lang/Object", "getClass", "()Ljava/lang/Class;"⟩) ∈ LA := LA_t (LT4 (List.mem_of_getElem? (i := 10) rfl)) rfl
set_option maxRecDepth 100000 in
theorem qw731 : (Cond.native ⟨"java/lang/Object", "getClass", "()Ljava/lang/Class;"⟩) ∈ LA := LA_t (LT4 (List.mem_of_getElem? (i := 11) rfl)) rfl
set_option maxRecDepth 100000 in
theorem qw732 : (Cond.methodLink RJ7 300 yJ7_copyOf_6403c) ∈ LA := LA_t (LT4 (List.mem_of_getElem? (i := 12) rfl)) rfl
set_option maxRecDepth 100000 in
theorem qw733 : (Cond.static yJ7_copyOf_6403c) ∈ LA := LA_t (LT4 (List.mem_of_getElem? (i := 13) rfl)) rfl
set_option maxRecDepth 100000 in
theorem qw734 : (Cond.code yJ7_copyOf_6403c cJ7_copyOf_6403c 4 (some (.array (.object "java/lang/Object")))) ∈ LA := LA_t (LT4 (List.mem_of_getElem? (i := 14) rfl)) rfl
set_option maxRecDepth 100000 in
theorem qw735 : (Cond.classLink RJ7 110 "[Ljava/lang/Object;") ∈ LA := LA_t (LT4 (List.mem_of_getElem? (i := 15) rfl)) rfl
set_option maxRecDepth 100000 in
theorem qw737 : (Cond.classLink RJ7 2 "java/lang/Object") ∈ LA := LA_t (LT4 (List.mem_of_getElem? (i := 17) rfl)) rfl
set_option maxRecDepth 100000 in
theorem qw738 : (Cond.methodLink RJ7 304 yJ9_min_7cf53) ∈ LA := LA_t (LT4 (List.mem_of_getElem? (i := 18) rfl)) rfl
set_option maxRecDepth 100000 in
theorem qw739 : (Cond.methodLink RJ7 150 arraycopyName) ∈ LA := LA_t (LT4 (List.mem_of_getElem? (i := 19) rfl)) rfl
set_option maxRecDepth 100000 in
theorem qw740 : (Cond.methodLink RJx4a65c 79 yJ9_max_7cf53) ∈ LA := LA_t (LT4 (List.mem_of_getElem? (i := 20) rfl)) rfl
set_option maxRecDepth 100000 in
theorem qw741 : (Cond.classLink RJx4a65c 7 "java/lang/Object") ∈ LA := LA_t (LT4 (List.mem_of_getElem? (i := 21) rfl)) rfl
set_option maxRecDepth 100000 in
theorem qw742 : (Cond.methodLink RX4 55 yX1_layOut) ∈ LA := LA_t (LT4 (List.mem_of_getElem? (i := 22) rfl)) rfl
set_option maxRecDepth 100000 in
theorem qw743 : (Cond.instanceMethod yX1_layOut) ∈ LA := LA_t (LT4 (List.mem_of_getElem? (i := 23) rfl)) rfl
set_option maxRecDepth 100000 in
theorem qw744 : (Cond.selects RX1 yX1_layOut yX1_layOut) ∈ LA := LA_t (LT4 (List.mem_of_getElem? (i := 24) rfl)) rfl
set_option maxRecDepth 100000 in
theorem qw745 : (Cond.code yX1_layOut cX1_layOut 6 none) ∈ LA := LA_t (LT4 (List.mem_of_getElem? (i := 25) rfl)) rfl
set_option maxRecDepth 100000 in
theorem qw746 : (Cond.methodLink RL 93 yL_pond) ∈ LA := LA_t (LT4 (List.mem_of_getElem? (i := 26) rfl)) rfl
set_option maxRecDepth 100000 in
theorem qw747 : (Cond.static yL_pond) ∈ LA := LA_t (LT4 (List.mem_of_getElem? (i := 27) rfl)) rfl
set_option maxRecDepth 100000 in
theorem qw748 : (Cond.codeWith yL_pond cL_pond 5 (some .int) [(0, 10, 13, 18), (0, 10, 17, 20)]) ∈ LA := LA_t (LT4 (List.mem_of_getElem? (i := 28) rfl)) rfl
set_option maxRecDepth 100000 in
theorem qw749 : (Cond.classLink RL 18 "java/lang/IndexOutOfBoundsException") ∈ LA := LA_t (LT4 (List.mem_of_getElem? (i := 29) rfl)) rfl
set_option maxRecDepth 100000 in
theorem qw750 : (Cond.classLink RL 20 "java/lang/IllegalStateException") ∈ LA := LA_t (LT4 (List.mem_of_getElem? (i := 30) rfl)) rfl
set_option maxRecDepth 100000 in
theorem qw751 : (Cond.methodLink RL 15 yX4_pond) ∈ LA := LA_t (LT4 (List.mem_of_getElem? (i := 31) rfl)) rfl
set_option maxRecDepth 100000 in
theorem qw752 : (Cond.instanceMethod yX4_pond) ∈ LA := LA_t (LT4 (List.mem_of_getElem? (i := 32) rfl)) rfl
set_option maxRecDepth 100000 in
theorem qw753 : (Cond.selects RX4 yX4_pond yX4_pond) ∈ LA := LA_t (LT4 (List.mem_of_getElem? (i := 33) rfl)) rfl
set_option maxRecDepth 100000 in
theorem qw754 : (Cond.code yX4_pond cX4_pond 6 (some .int)) ∈ LA := LA_t (LT4 (List.mem_of_getElem? (i := 34) rfl)) rfl
set_option maxRecDepth 100000 in
theorem qw755 : (Cond.classLink RX4 74 "java/lang/IllegalStateException") ∈ LA := LA_t (LT4 (List.mem_of_getElem? (i := 35) rfl)) rfl
set_option maxRecDepth 100000 in
theorem qw756 : (Cond.instantiable "java/lang/IllegalStateException" 6) ∈ LA := LA_t (LT4 (List.mem_of_getElem? (i := 36) rfl)) rfl
set_option maxRecDepth 100000 in
theorem qw757 : (Cond.castable "java/lang/IllegalStateException" "java/lang/IllegalStateException") ∈ LN := LN_t (LT4 (List.mem_of_getElem? (i := 37) rfl)) rfl
set_option maxRecDepth 100000 in
theorem qw758 : (Cond.selects "java/lang/IllegalStateException" ⟨"java/lang/Throwable", "fillInStackTrace", "(I)Ljava/lang/Throwable;"⟩ ⟨"java/lang/Throwable", "fillInStackTrace", "(I)Ljava/lang/Throwable;"⟩) ∈ LA := LA_t (LT4 (List.mem_of_getElem? (i := 38) rfl)) rfl
set_option maxRecDepth 100000 in
theorem qw759 : (Cond.lays "java/lang/IllegalStateException" "java/lang/Throwable" "cause" "Ljava/lang/Throwable;") ∈ LA := LA_t (LT4 (List.mem_of_getElem? (i := 39) rfl)) rfl
set_option maxRecDepth 100000 in
theorem qw760 : (Cond.lays "java/lang/IllegalStateException" "java/lang/Throwable" "stackTrace" "[Ljava/lang/StackTraceElement;") ∈ LA := LA_t (LT4 (List.mem_of_getElem? (i := 40) rfl)) rfl
set_option maxRecDepth 100000 in
theorem qw761 : (Cond.lays "java/lang/IllegalStateException" "java/lang/Throwable" "suppressedExceptions" "Ljava/util/List;") ∈ LA := LA_t (LT4 (List.mem_of_getElem? (i := 41) rfl)) rfl
set_option maxRecDepth 100000 in
theorem qw762 : (Cond.lays "java/lang/IllegalStateException" "java/lang/Throwable" "detailMessage" "Ljava/lang/String;") ∈ LA := LA_t (LT4 (List.mem_of_getElem? (i := 42) rfl)) rfl
set_option maxRecDepth 100000 in
theorem qw763 : (Cond.lays "java/lang/IllegalStateException" "java/lang/Throwable" "backtrace" "Ljava/lang/Object;") ∈ LA := LA_t (LT4 (List.mem_of_getElem? (i := 43) rfl)) rfl
set_option maxRecDepth 100000 in
theorem qw765 : (Cond.methodLink RX4 78 ⟨"java/lang/IllegalStateException", "<init>", "(Ljava/lang/String;)V"⟩) ∈ LA := LA_t (LT4 (List.mem_of_getElem? (i := 45) rfl)) rfl
set_option maxRecDepth 100000 in
theorem qw766 : (Cond.instanceMethod ⟨"java/lang/IllegalStateException", "<init>", "(Ljava/lang/String;)V"⟩) ∈ LA := LA_t (LT4 (List.mem_of_getElem? (i := 46) rfl)) rfl
set_option maxRecDepth 100000 in
theorem qw767 : (Cond.code ⟨"java/lang/IllegalStateException", "<init>", "(Ljava/lang/String;)V"⟩ prog_15_method_2_code 2 none) ∈ LA := LA_t (LT4 (List.mem_of_getElem? (i := 47) rfl)) rfl
set_option maxRecDepth 100000 in
theorem qw768 : (Cond.methodLink "java/lang/IllegalStateException" 7 ⟨"java/lang/RuntimeException", "<init>", "(Ljava/lang/String;)V"⟩) ∈ LA := LA_t (LT4 (List.mem_of_getElem? (i := 48) rfl)) rfl
set_option maxRecDepth 100000 in
theorem qw769 : (Cond.lays "java/lang/IllegalStateException" "java/lang/Throwable" "depth" "I") ∈ LA := LA_t (LT4 (List.mem_of_getElem? (i := 49) rfl)) rfl
set_option maxRecDepth 100000 in
theorem qw771 : (Cond.methodLink RL 96 yL_wall) ∈ LA := LA_t (LT4 (List.mem_of_getElem? (i := 51) rfl)) rfl
set_option maxRecDepth 100000 in
theorem qw772 : (Cond.static yL_wall) ∈ LA := LA_t (LT4 (List.mem_of_getElem? (i := 52) rfl)) rfl
set_option maxRecDepth 100000 in
theorem qw773 : (Cond.codeWith yL_wall cL_wall 5 (some .int) [(0, 10, 13, 18), (0, 10, 17, 20)]) ∈ LA := LA_t (LT4 (List.mem_of_getElem? (i := 53) rfl)) rfl
set_option maxRecDepth 100000 in
theorem qw774 : (Cond.methodLink RL 22 yX4_wall) ∈ LA := LA_t (LT4 (List.mem_of_getElem? (i := 54) rfl)) rfl
set_option maxRecDepth 100000 in
theorem qw775 : (Cond.instanceMethod yX4_wall) ∈ LA := LA_t (LT4 (List.mem_of_getElem? (i := 55) rfl)) rfl
set_option maxRecDepth 100000 in
theorem qw776 : (Cond.selects RX4 yX4_wall yX4_wall) ∈ LA := LA_t (LT4 (List.mem_of_getElem? (i := 56) rfl)) rfl
set_option maxRecDepth 100000 in
theorem qw777 : (Cond.code yX4_wall cX4_wall 5 (some .int)) ∈ LA := LA_t (LT4 (List.mem_of_getElem? (i := 57) rfl)) rfl
set_option maxRecDepth 100000 in
theorem qw779 : (Cond.methodLink RL 99 yL_lay) ∈ LA := LA_t (LT4 (List.mem_of_getElem? (i := 59) rfl)) rfl
set_option maxRecDepth 100000 in
theorem qw780 : (Cond.static yL_lay) ∈ LA := LA_t (LT4 (List.mem_of_getElem? (i := 60) rfl)) rfl
set_option maxRecDepth 100000 in
theorem qw781 : (Cond.codeWith yL_lay cL_lay 6 (some .int) [(0, 12, 15, 13)]) ∈ LA := LA_t (LT4 (List.mem_of_getElem? (i := 61) rfl)) rfl
set_option maxRecDepth 100000 in
theorem qw782 : (Cond.methodLink RL 25 yX4_lay) ∈ LA := LA_t (LT4 (List.mem_of_getElem? (i := 62) rfl)) rfl
set_option maxRecDepth 100000 in
theorem qw783 : (Cond.instanceMethod yX4_lay) ∈ LA := LA_t (LT4 (List.mem_of_getElem? (i := 63) rfl)) rfl
set_option maxRecDepth 100000 in
theorem qw784 : (Cond.selects RX4 yX4_lay yX4_lay) ∈ LA := LA_t (LT4 (List.mem_of_getElem? (i := 64) rfl)) rfl
set_option maxRecDepth 100000 in
theorem qw785 : (Cond.code yX4_lay cX4_lay 5 (some .int)) ∈ LA := LA_t (LT4 (List.mem_of_getElem? (i := 65) rfl)) rfl
set_option maxRecDepth 100000 in
theorem qw786 : (Cond.methodLink RX4 111 yX1_putTriple) ∈ LA := LA_t (LT4 (List.mem_of_getElem? (i := 66) rfl)) rfl
set_option maxRecDepth 100000 in
theorem qw787 : (Cond.instanceMethod yX1_putTriple) ∈ LA := LA_t (LT4 (List.mem_of_getElem? (i := 67) rfl)) rfl
set_option maxRecDepth 100000 in
theorem qw788 : (Cond.selects RX1 yX1_putTriple yX1_putTriple) ∈ LA := LA_t (LT4 (List.mem_of_getElem? (i := 68) rfl)) rfl
set_option maxRecDepth 100000 in
theorem qw789 : (Cond.code yX1_putTriple cX1_putTriple 4 none) ∈ LA := LA_t (LT4 (List.mem_of_getElem? (i := 69) rfl)) rfl
set_option maxRecDepth 100000 in
theorem qw790 : (Cond.methodLink RL 103 yL_lift) ∈ LA := LA_t (LT4 (List.mem_of_getElem? (i := 70) rfl)) rfl
set_option maxRecDepth 100000 in
theorem qw791 : (Cond.static yL_lift) ∈ LA := LA_t (LT4 (List.mem_of_getElem? (i := 71) rfl)) rfl
set_option maxRecDepth 100000 in
theorem qw792 : (Cond.codeWith yL_lift cL_lift 5 (some .int) [(0, 10, 13, 18), (0, 10, 17, 20)]) ∈ LA := LA_t (LT4 (List.mem_of_getElem? (i := 72) rfl)) rfl
set_option maxRecDepth 100000 in
theorem qw793 : (Cond.methodLink RL 29 yX4_lift) ∈ LA := LA_t (LT4 (List.mem_of_getElem? (i := 73) rfl)) rfl
set_option maxRecDepth 100000 in
theorem qw794 : (Cond.instanceMethod yX4_lift) ∈ LA := LA_t (LT4 (List.mem_of_getElem? (i := 74) rfl)) rfl
set_option maxRecDepth 100000 in
theorem qw795 : (Cond.selects RX4 yX4_lift yX4_lift) ∈ LA := LA_t (LT4 (List.mem_of_getElem? (i := 75) rfl)) rfl
set_option maxRecDepth 100000 in
theorem qw796 : (Cond.code yX4_lift cX4_lift 4 (some .int)) ∈ LA := LA_t (LT4 (List.mem_of_getElem? (i := 76) rfl)) rfl
set_option maxRecDepth 100000 in
theorem qw798 : (Cond.methodLink RX4 123 yX1_takeTriple) ∈ LA := LA_t (LT4 (List.mem_of_getElem? (i := 78) rfl)) rfl
set_option maxRecDepth 100000 in
theorem qw799 : (Cond.instanceMethod yX1_takeTriple) ∈ LA := LA_t (LT4 (List.mem_of_getElem? (i := 79) rfl)) rfl
set_option maxRecDepth 100000 in
theorem qw800 : (Cond.selects RX1 yX1_takeTriple yX1_takeTriple) ∈ LA := LA_t (LT4 (List.mem_of_getElem? (i := 80) rfl)) rfl
set_option maxRecDepth 100000 in
theorem qw801 : (Cond.code yX1_takeTriple cX1_takeTriple 3 none) ∈ LA := LA_t (LT4 (List.mem_of_getElem? (i := 81) rfl)) rfl
set_option maxRecDepth 100000 in
theorem qw802 : (Cond.methodLink RL 106 yL_flip) ∈ LA := LA_t (LT4 (List.mem_of_getElem? (i := 82) rfl)) rfl
set_option maxRecDepth 100000 in
theorem qw803 : (Cond.static yL_flip) ∈ LA := LA_t (LT4 (List.mem_of_getElem? (i := 83) rfl)) rfl
set_option maxRecDepth 100000 in
theorem qw804 : (Cond.codeWith yL_flip cL_flip 6 (some .int) [(0, 12, 15, 18), (0, 12, 19, 20)]) ∈ LA := LA_t (LT4 (List.mem_of_getElem? (i := 84) rfl)) rfl
set_option maxRecDepth 100000 in
theorem qw805 : (Cond.methodLink RL 32 yX4_flip) ∈ LA := LA_t (LT4 (List.mem_of_getElem? (i := 85) rfl)) rfl
set_option maxRecDepth 100000 in
theorem qw806 : (Cond.instanceMethod yX4_flip) ∈ LA := LA_t (LT4 (List.mem_of_getElem? (i := 86) rfl)) rfl
set_option maxRecDepth 100000 in
theorem qw807 : (Cond.selects RX4 yX4_flip yX4_flip) ∈ LA := LA_t (LT4 (List.mem_of_getElem? (i := 87) rfl)) rfl
set_option maxRecDepth 100000 in
theorem qw808 : (Cond.code yX4_flip cX4_flip 4 (some .int)) ∈ LA := LA_t (LT4 (List.mem_of_getElem? (i := 88) rfl)) rfl
set_option maxRecDepth 100000 in
theorem qw809 : (Cond.methodLink RX4 126 yX1_hasFlipBlock) ∈ LA := LA_t (LT4 (List.mem_of_getElem? (i := 89) rfl)) rfl
set_option maxRecDepth 100000 in
theorem qw811 : (Cond.methodLink RX4 135 yX1_isFlippable) ∈ LA := LA_t (LT4 (List.mem_of_getElem? (i := 91) rfl)) rfl
set_option maxRecDepth 100000 in
theorem qw813 : (Cond.methodLink RX4 140 yX1_flipBlock) ∈ LA := LA_t (LT4 (List.mem_of_getElem? (i := 93) rfl)) rfl
set_option maxRecDepth 100000 in
theorem qw814 : (Cond.instanceMethod yX1_flipBlock) ∈ LA := LA_t (LT4 (List.mem_of_getElem? (i := 94) rfl)) rfl
set_option maxRecDepth 100000 in
theorem qw815 : (Cond.selects RX1 yX1_flipBlock yX1_flipBlock) ∈ LA := LA_t (LT4 (List.mem_of_getElem? (i := 95) rfl)) rfl
set_option maxRecDepth 100000 in
theorem qw816 : (Cond.code yX1_flipBlock cX1_flipBlock 7 none) ∈ LA := LA_t (LT4 (List.mem_of_getElem? (i := 96) rfl)) rfl
set_option maxRecDepth 100000 in
theorem qw817 : (Cond.methodLink RX1 126 yJ9_max_7cf53) ∈ LA := LA_t (LT4 (List.mem_of_getElem? (i := 97) rfl)) rfl
set_option maxRecDepth 100000 in
theorem qw818 : (Cond.methodLink RX1 131 yX1_takeTriple) ∈ LA := LA_t (LT4 (List.mem_of_getElem? (i := 98) rfl)) rfl
set_option maxRecDepth 100000 in
theorem qw819 : (Cond.methodLink RX1 135 yJ9_min_7cf53) ∈ LA := LA_t (LT4 (List.mem_of_getElem? (i := 99) rfl)) rfl
set_option maxRecDepth 100000 in
theorem qw820 : (Cond.methodLink RX1 138 yX1_putTriple) ∈ LA := LA_t (LT4 (List.mem_of_getElem? (i := 100) rfl)) rfl
set_option maxRecDepth 100000 in
theorem qw821 : (Cond.methodLink RL 110 yL_fill) ∈ LA := LA_t (LT4 (List.mem_of_getElem? (i := 101) rfl)) rfl
set_option maxRecDepth 100000 in
theorem qw822 : (Cond.static yL_fill) ∈ LA := LA_t (LT4 (List.mem_of_getElem? (i := 102) rfl)) rfl
set_option maxRecDepth 100000 in
theorem qw823 : (Cond.codeWith yL_fill cL_fill 3 (some .int) [(0, 8, 11, 20)]) ∈ LA := LA_t (LT4 (List.mem_of_getElem? (i := 103) rfl)) rfl
set_option maxRecDepth 100000 in
theorem qw824 : (Cond.methodLink RL 36 yX4_fill) ∈ LA := LA_t (LT4 (List.mem_of_getElem? (i := 104) rfl)) rfl
set_option maxRecDepth 100000 in
theorem qw825 : (Cond.instanceMethod yX4_fill) ∈ LA := LA_t (LT4 (List.mem_of_getElem? (i := 105) rfl)) rfl
set_option maxRecDepth 100000 in
theorem qw826 : (Cond.selects RX4 yX4_fill yX4_fill) ∈ LA := LA_t (LT4 (List.mem_of_getElem? (i := 106) rfl)) rfl
set_option maxRecDepth 100000 in
theorem qw827 : (Cond.code yX4_fill cX4_fill 2 (some .int)) ∈ LA := LA_t (LT4 (List.mem_of_getElem? (i := 107) rfl)) rfl
set_option maxRecDepth 100000 in
theorem qw829 : (Cond.methodLink RX4 158 yX2_paveFirstWay) ∈ LA := LA_t (LT4 (List.mem_of_getElem? (i := 109) rfl)) rfl
set_option maxRecDepth 100000 in
theorem qw830 : (Cond.instanceMethod yX2_paveFirstWay) ∈ LA := LA_t (LT4 (List.mem_of_getElem? (i := 110) rfl)) rfl
set_option maxRecDepth 100000 in
theorem qw831 : (Cond.selects RX2 yX2_paveFirstWay yX2_paveFirstWay) ∈ LA := LA_t (LT4 (List.mem_of_getElem? (i := 111) rfl)) rfl
set_option maxRecDepth 100000 in
theorem qw832 : (Cond.code yX2_paveFirstWay cX2_paveFirstWay 8 none) ∈ LA := LA_t (LT4 (List.mem_of_getElem? (i := 112) rfl)) rfl
set_option maxRecDepth 100000 in
theorem qw833 : (Cond.methodLink RX2 124 yX1_freeCells) ∈ LA := LA_t (LT4 (List.mem_of_getElem? (i := 113) rfl)) rfl
set_option maxRecDepth 100000 in
theorem qw834 : (Cond.methodLink RX2 134 yX2_leastTurn) ∈ LA := LA_t (LT4 (List.mem_of_getElem? (i := 114) rfl)) rfl
set_option maxRecDepth 100000 in
theorem qw836 : (Cond.instanceMethod yX2_leastTurn) ∈ LA := LA_t (LT4 (List.mem_of_getElem? (i := 116) rfl)) rfl
set_option maxRecDepth 100000 in
theorem qw837 : (Cond.code yX2_leastTurn cX2_leastTurn 4 (some .int)) ∈ LA := LA_t (LT4 (List.mem_of_getElem? (i := 117) rfl)) rfl
set_option maxRecDepth 100000 in
theorem qw838 : (Cond.methodLink RX2 137 yX1_putTriple) ∈ LA := LA_t (LT4 (List.mem_of_getElem? (i := 118) rfl)) rfl
set_option maxRecDepth 100000 in
theorem qw839 : (Cond.methodLink RL 114 yL_halve) ∈ LA := LA_t (LT4 (List.mem_of_getElem? (i := 119) rfl)) rfl
set_option maxRecDepth 100000 in
theorem qw840 : (Cond.static yL_halve) ∈ LA := LA_t (LT4 (List.mem_of_getElem? (i := 120) rfl)) rfl
set_option maxRecDepth 100000 in
theorem qw841 : (Cond.codeWith yL_halve cL_halve 3 (some .int) [(0, 8, 11, 20)]) ∈ LA := LA_t (LT4 (List.mem_of_getElem? (i := 121) rfl)) rfl
set_option maxRecDepth 100000 in
theorem qw842 : (Cond.methodLink RL 40 yX4_halve) ∈ LA := LA_t (LT4 (List.mem_of_getElem? (i := 122) rfl)) rfl
set_option maxRecDepth 100000 in
theorem qw843 : (Cond.instanceMethod yX4_halve) ∈ LA := LA_t (LT4 (List.mem_of_getElem? (i := 123) rfl)) rfl
set_option maxRecDepth 100000 in
theorem qw844 : (Cond.selects RX4 yX4_halve yX4_halve) ∈ LA := LA_t (LT4 (List.mem_of_getElem? (i := 124) rfl)) rfl
set_option maxRecDepth 100000 in
theorem qw845 : (Cond.code yX4_halve cX4_halve 1 (some .int)) ∈ LA := LA_t (LT4 (List.mem_of_getElem? (i := 125) rfl)) rfl
set_option maxRecDepth 100000 in
theorem qw846 : (Cond.methodLink RX4 162 yX1_isHalvable) ∈ LA := LA_t (LT4 (List.mem_of_getElem? (i := 126) rfl)) rfl
set_option maxRecDepth 100000 in
theorem qw847 : (Cond.instanceMethod yX1_isHalvable) ∈ LA := LA_t (LT4 (List.mem_of_getElem? (i := 127) rfl)) rfl
set_option maxRecDepth 100000 in
theorem qw848 : (Cond.selects RX1 yX1_isHalvable yX1_isHalvable) ∈ LA := LA_t (LT4 (List.mem_of_getElem? (i := 128) rfl)) rfl
set_option maxRecDepth 100000 in
theorem qw849 : (Cond.code yX1_isHalvable cX1_isHalvable 2 (some .boolean)) ∈ LA := LA_t (LT4 (List.mem_of_getElem? (i := 129) rfl)) rfl
set_option maxRecDepth 100000 in
theorem qw851 : (Cond.methodLink RX4 168 yX1_paveSquares) ∈ LA := LA_t (LT4 (List.mem_of_getElem? (i := 131) rfl)) rfl
set_option maxRecDepth 100000 in
theorem qw852 : (Cond.instanceMethod yX1_paveSquares) ∈ LA := LA_t (LT4 (List.mem_of_getElem? (i := 132) rfl)) rfl
set_option maxRecDepth 100000 in
theorem qw853 : (Cond.selects RX1 yX1_paveSquares yX1_paveSquares) ∈ LA := LA_t (LT4 (List.mem_of_getElem? (i := 133) rfl)) rfl
set_option maxRecDepth 100000 in
theorem qw854 : (Cond.code yX1_paveSquares cX1_paveSquares 1 none) ∈ LA := LA_t (LT4 (List.mem_of_getElem? (i := 134) rfl)) rfl
set_option maxRecDepth 100000 in
theorem qw855 : (Cond.methodLink RX1 149 yX1_paveSquare) ∈ LA := LA_t (LT4 (List.mem_of_getElem? (i := 135) rfl)) rfl
set_option maxRecDepth 100000 in
theorem qw856 : (Cond.static yX1_paveSquare) ∈ LA := LA_t (LT4 (List.mem_of_getElem? (i := 136) rfl)) rfl
set_option maxRecDepth 100000 in
theorem qw857 : (Cond.code yX1_paveSquare cX1_paveSquare 15 none) ∈ LA := LA_t (LT4 (List.mem_of_getElem? (i := 137) rfl)) rfl
set_option maxRecDepth 100000 in
theorem qw858 : (Cond.methodLink RX1 153 yX1_quarterTurn) ∈ LA := LA_t (LT4 (List.mem_of_getElem? (i := 138) rfl)) rfl
set_option maxRecDepth 100000 in
theorem qw859 : (Cond.static yX1_quarterTurn) ∈ LA := LA_t (LT4 (List.mem_of_getElem? (i := 139) rfl)) rfl
set_option maxRecDepth 100000 in
theorem qw860 : (Cond.code yX1_quarterTurn cX1_quarterTurn 2 (some .int)) ∈ LA := LA_t (LT4 (List.mem_of_getElem? (i := 140) rfl)) rfl
set_option maxRecDepth 100000 in
theorem qw861 : (Cond.methodLink RL 117 yL_append) ∈ LA := LA_t (LT4 (List.mem_of_getElem? (i := 141) rfl)) rfl
set_option maxRecDepth 100000 in
theorem qw862 : (Cond.static yL_append) ∈ LA := LA_t (LT4 (List.mem_of_getElem? (i := 142) rfl)) rfl
set_option maxRecDepth 100000 in
theorem qw863 : (Cond.codeWith yL_append cL_append 4 (some .int) [(0, 9, 12, 13), (0, 9, 15, 20)]) ∈ LA := LA_t (LT4 (List.mem_of_getElem? (i := 143) rfl)) rfl
set_option maxRecDepth 100000 in
theorem qw864 : (Cond.methodLink RL 43 yX4_append) ∈ LA := LA_t (LT4 (List.mem_of_getElem? (i := 144) rfl)) rfl
set_option maxRecDepth 100000 in
theorem qw865 : (Cond.instanceMethod yX4_append) ∈ LA := LA_t (LT4 (List.mem_of_getElem? (i := 145) rfl)) rfl
set_option maxRecDepth 100000 in
theorem qw866 : (Cond.selects RX4 yX4_append yX4_append) ∈ LA := LA_t (LT4 (List.mem_of_getElem? (i := 146) rfl)) rfl
set_option maxRecDepth 100000 in
theorem qw867 : (Cond.code yX4_append cX4_append 2 (some .int)) ∈ LA := LA_t (LT4 (List.mem_of_getElem? (i := 147) rfl)) rfl
set_option maxRecDepth 100000 in
theorem qw869 : (Cond.methodLink RX4 173 yX0_isFull) ∈ LA := LA_t (LT4 (List.mem_of_getElem? (i := 149) rfl)) rfl
set_option maxRecDepth 100000 in
theorem qw870 : (Cond.instanceMethod yX0_isFull) ∈ LA := LA_t (LT4 (List.mem_of_getElem? (i := 150) rfl)) rfl
set_option maxRecDepth 100000 in
theorem qw871 : (Cond.selects RX0 yX0_isFull yX0_isFull) ∈ LA := LA_t (LT4 (List.mem_of_getElem? (i := 151) rfl)) rfl
set_option maxRecDepth 100000 in
theorem qw872 : (Cond.code yX0_isFull cX0_isFull 1 (some .boolean)) ∈ LA := LA_t (LT4 (List.mem_of_getElem? (i := 152) rfl)) rfl
set_option maxRecDepth 100000 in
theorem qw874 : (Cond.methodLink RX4 178 yX0_add) ∈ LA := LA_t (LT4 (List.mem_of_getElem? (i := 154) rfl)) rfl
set_option maxRecDepth 100000 in
theorem qw875 : (Cond.instanceMethod yX0_add) ∈ LA := LA_t (LT4 (List.mem_of_getElem? (i := 155) rfl)) rfl
set_option maxRecDepth 100000 in
theorem qw876 : (Cond.selects RX0 yX0_add yX0_add) ∈ LA := LA_t (LT4 (List.mem_of_getElem? (i := 156) rfl)) rfl
set_option maxRecDepth 100000 in
theorem qw877 : (Cond.code yX0_add cX0_add 2 none) ∈ LA := LA_t (LT4 (List.mem_of_getElem? (i := 157) rfl)) rfl
set_option maxRecDepth 100000 in
theorem qw878 : (Cond.methodLink RL 129 yL_load) ∈ LA := LA_t (LT4 (List.mem_of_getElem? (i := 158) rfl)) rfl
set_option maxRecDepth 100000 in
theorem qw879 : (Cond.static yL_load) ∈ LA := LA_t (LT4 (List.mem_of_getElem? (i := 159) rfl)) rfl
set_option maxRecDepth 100000 in
theorem qw880 : (Cond.codeWith yL_load cL_load 3 (some .int) [(0, 8, 11, 13)]) ∈ LA := LA_t (LT4 (List.mem_of_getElem? (i := 160) rfl)) rfl
set_option maxRecDepth 100000 in
theorem qw881 : (Cond.methodLink RL 47 yX4_load) ∈ LA := LA_t (LT4 (List.mem_of_getElem? (i := 161) rfl)) rfl
set_option maxRecDepth 100000 in
theorem qw882 : (Cond.instanceMethod yX4_load) ∈ LA := LA_t (LT4 (List.mem_of_getElem? (i := 162) rfl)) rfl
set_option maxRecDepth 100000 in
theorem qw883 : (Cond.selects RX4 yX4_load yX4_load) ∈ LA := LA_t (LT4 (List.mem_of_getElem? (i := 163) rfl)) rfl
set_option maxRecDepth 100000 in
theorem qw884 : (Cond.code yX4_load cX4_load 2 (some .int)) ∈ LA := LA_t (LT4 (List.mem_of_getElem? (i := 164) rfl)) rfl
set_option maxRecDepth 100000 in
theorem qw885 : (Cond.methodLink RX4 191 yX3_isWhole) ∈ LA := LA_t (LT4 (List.mem_of_getElem? (i := 165) rfl)) rfl
set_option maxRecDepth 100000 in
theorem qw886 : (Cond.instanceMethod yX3_isWhole) ∈ LA := LA_t (LT4 (List.mem_of_getElem? (i := 166) rfl)) rfl
set_option maxRecDepth 100000 in
theorem qw887 : (Cond.selects RX3 yX3_isWhole yX3_isWhole) ∈ LA := LA_t (LT4 (List.mem_of_getElem? (i := 167) rfl)) rfl
set_option maxRecDepth 100000 in
theorem qw888 : (Cond.code yX3_isWhole cX3_isWhole 1 (some .boolean)) ∈ LA := LA_t (LT4 (List.mem_of_getElem? (i := 168) rfl)) rfl
set_option maxRecDepth 100000 in
theorem qw890 : (Cond.methodLink RL 132 yL_keep) ∈ LA := LA_t (LT4 (List.mem_of_getElem? (i := 170) rfl)) rfl
set_option maxRecDepth 100000 in
theorem qw891 : (Cond.static yL_keep) ∈ LA := LA_t (LT4 (List.mem_of_getElem? (i := 171) rfl)) rfl
set_option maxRecDepth 100000 in
theorem qw892 : (Cond.codeWith yL_keep cL_keep 4 (some .int) [(0, 9, 12, 13)]) ∈ LA := LA_t (LT4 (List.mem_of_getElem? (i := 172) rfl)) rfl
set_option maxRecDepth 100000 in
theorem qw893 : (Cond.methodLink RL 50 yX4_keep) ∈ LA := LA_t (LT4 (List.mem_of_getElem? (i := 173) rfl)) rfl
set_option maxRecDepth 100000 in
theorem qw894 : (Cond.instanceMethod yX4_keep) ∈ LA := LA_t (LT4 (List.mem_of_getElem? (i := 174) rfl)) rfl
set_option maxRecDepth 100000 in
theorem qw895 : (Cond.selects RX4 yX4_keep yX4_keep) ∈ LA := LA_t (LT4 (List.mem_of_getElem? (i := 175) rfl)) rfl
set_option maxRecDepth 100000 in
theorem qw896 : (Cond.code yX4_keep cX4_keep 2 (some .int)) ∈ LA := LA_t (LT4 (List.mem_of_getElem? (i := 176) rfl)) rfl
set_option maxRecDepth 100000 in
theorem qw897 : (Cond.methodLink RX4 204 yX4_requireSlot) ∈ LA := LA_t (LT4 (List.mem_of_getElem? (i := 177) rfl)) rfl
set_option maxRecDepth 100000 in
theorem qw899 : (Cond.instanceMethod yX4_requireSlot) ∈ LA := LA_t (LT4 (List.mem_of_getElem? (i := 179) rfl)) rfl
set_option maxRecDepth 100000 in
theorem qw900 : (Cond.code yX4_requireSlot cX4_requireSlot 2 none) ∈ LA := LA_t (LT4 (List.mem_of_getElem? (i := 180) rfl)) rfl
set_option maxRecDepth 100000 in
theorem qw902 : (Cond.methodLink RL 135 yL_goBack) ∈ LA := LA_t (LT4 (List.mem_of_getElem? (i := 182) rfl)) rfl
set_option maxRecDepth 100000 in
theorem qw903 : (Cond.static yL_goBack) ∈ LA := LA_t (LT4 (List.mem_of_getElem? (i := 183) rfl)) rfl
set_option maxRecDepth 100000 in
theorem qw904 : (Cond.codeWith yL_goBack cL_goBack 4 (some .int) [(0, 9, 12, 13), (0, 9, 15, 20)]) ∈ LA := LA_t (LT4 (List.mem_of_getElem? (i := 184) rfl)) rfl
set_option maxRecDepth 100000 in
theorem qw905 : (Cond.methodLink RL 53 yX4_goBack) ∈ LA := LA_t (LT4 (List.mem_of_getElem? (i := 185) rfl)) rfl
set_option maxRecDepth 100000 in
theorem qw906 : (Cond.instanceMethod yX4_goBack) ∈ LA := LA_t (LT4 (List.mem_of_getElem? (i := 186) rfl)) rfl
set_option maxRecDepth 100000 in
theorem qw907 : (Cond.selects RX4 yX4_goBack yX4_goBack) ∈ LA := LA_t (LT4 (List.mem_of_getElem? (i := 187) rfl)) rfl
set_option maxRecDepth 100000 in
theorem qw908 : (Cond.code yX4_goBack cX4_goBack 3 (some .int)) ∈ LA := LA_t (LT4 (List.mem_of_getElem? (i := 188) rfl)) rfl
set_option maxRecDepth 100000 in
theorem qw910 : (Cond.methodLink RL 138 yL_undo) ∈ LA := LA_t (LT4 (List.mem_of_getElem? (i := 190) rfl)) rfl
set_option maxRecDepth 100000 in
theorem qw911 : (Cond.static yL_undo) ∈ LA := LA_t (LT4 (List.mem_of_getElem? (i := 191) rfl)) rfl
set_option maxRecDepth 100000 in
theorem qw912 : (Cond.codeWith yL_undo cL_undo 3 (some .int) [(0, 8, 11, 20)]) ∈ LA := LA_t (LT4 (List.mem_of_getElem? (i := 192) rfl)) rfl
set_option maxRecDepth 100000 in
theorem qw913 : (Cond.methodLink RL 56 yX4_undo) ∈ LA := LA_t (LT4 (List.mem_of_getElem? (i := 193) rfl)) rfl
set_option maxRecDepth 100000 in
theorem qw914 : (Cond.instanceMethod yX4_undo) ∈ LA := LA_t (LT4 (List.mem_of_getElem? (i := 194) rfl)) rfl
set_option maxRecDepth 100000 in
theorem qw915 : (Cond.selects RX4 yX4_undo yX4_undo) ∈ LA := LA_t (LT4 (List.mem_of_getElem? (i := 195) rfl)) rfl
set_option maxRecDepth 100000 in
theorem qw916 : (Cond.code yX4_undo cX4_undo 2 (some .int)) ∈ LA := LA_t (LT4 (List.mem_of_getElem? (i := 196) rfl)) rfl
set_option maxRecDepth 100000 in
theorem qw918 : (Cond.methodLink RX4 219 yJx4a65c_get_915e3) ∈ LA := LA_t (LT4 (List.mem_of_getElem? (i := 198) rfl)) rfl
set_option maxRecDepth 100000 in
theorem qw919 : (Cond.instanceMethod yJx4a65c_get_915e3) ∈ LA := LA_t (LT4 (List.mem_of_getElem? (i := 199) rfl)) rfl
set_option maxRecDepth 100000 in
theorem qw920 : (Cond.selects RJx4a65c yJx4a65c_get_915e3 yJx4a65c_get_915e3) ∈ LA := LA_t (LT4 (List.mem_of_getElem? (i := 200) rfl)) rfl
set_option maxRecDepth 100000 in
theorem qw921 : (Cond.code yJx4a65c_get_915e3 cJx4a65c_get_915e3 2 (some (.object "java/lang/Object"))) ∈ LA := LA_t (LT4 (List.mem_of_getElem? (i := 201) rfl)) rfl
set_option maxRecDepth 100000 in
theorem qw922 : (Cond.methodLink RJx4a65c 123 yJx4a65c_elementData_915e3) ∈ LA := LA_t (LT4 (List.mem_of_getElem? (i := 202) rfl)) rfl
set_option maxRecDepth 100000 in
theorem qw923 : (Cond.instanceMethod yJx4a65c_elementData_915e3) ∈ LA := LA_t (LT4 (List.mem_of_getElem? (i := 203) rfl)) rfl
set_option maxRecDepth 100000 in
theorem qw924 : (Cond.selects RJx4a65c yJx4a65c_elementData_915e3 yJx4a65c_elementData_915e3) ∈ LA := LA_t (LT4 (List.mem_of_getElem? (i := 204) rfl)) rfl
set_option maxRecDepth 100000 in
theorem qw925 : (Cond.code yJx4a65c_elementData_915e3 cJx4a65c_elementData_915e3 2 (some (.object "java/lang/Object"))) ∈ LA := LA_t (LT4 (List.mem_of_getElem? (i := 205) rfl)) rfl
set_option maxRecDepth 100000 in
theorem qw926 : (Cond.methodLink RL 141 yL_cell) ∈ LA := LA_t (LT4 (List.mem_of_getElem? (i := 206) rfl)) rfl
set_option maxRecDepth 100000 in
theorem qw927 : (Cond.static yL_cell) ∈ LA := LA_t (LT4 (List.mem_of_getElem? (i := 207) rfl)) rfl
set_option maxRecDepth 100000 in
theorem qw928 : (Cond.codeWith yL_cell cL_cell 6 (some .int) [(0, 12, 15, 18), (0, 12, 19, 13)]) ∈ LA := LA_t (LT4 (List.mem_of_getElem? (i := 208) rfl)) rfl
set_option maxRecDepth 100000 in
theorem qw929 : (Cond.methodLink RL 59 yX4_cell) ∈ LA := LA_t (LT4 (List.mem_of_getElem? (i := 209) rfl)) rfl
set_option maxRecDepth 100000 in
theorem qw930 : (Cond.methodLink RL 144 yL_triple) ∈ LA := LA_t (LT4 (List.mem_of_getElem? (i := 210) rfl)) rfl
set_option maxRecDepth 100000 in
theorem qw931 : (Cond.static yL_triple) ∈ LA := LA_t (LT4 (List.mem_of_getElem? (i := 211) rfl)) rfl
set_option maxRecDepth 100000 in
theorem qw932 : (Cond.codeWith yL_triple cL_triple 5 (some .int) [(0, 10, 13, 18), (0, 10, 17, 13)]) ∈ LA := LA_t (LT4 (List.mem_of_getElem? (i := 212) rfl)) rfl
set_option maxRecDepth 100000 in
theorem qw933 : (Cond.methodLink RL 62 yX4_triple) ∈ LA := LA_t (LT4 (List.mem_of_getElem? (i := 213) rfl)) rfl
set_option maxRecDepth 100000 in
theorem qw934 : (Cond.methodLink RL 147 yL_row) ∈ LA := LA_t (LT4 (List.mem_of_getElem? (i := 214) rfl)) rfl
set_option maxRecDepth 100000 in
theorem qw935 : (Cond.static yL_row) ∈ LA := LA_t (LT4 (List.mem_of_getElem? (i := 215) rfl)) rfl
set_option maxRecDepth 100000 in
theorem qw936 : (Cond.codeWith yL_row cL_row 5 (some .int) [(0, 10, 13, 18), (0, 10, 17, 13)]) ∈ LA := LA_t (LT4 (List.mem_of_getElem? (i := 216) rfl)) rfl
set_option maxRecDepth 100000 in
theorem qw937 : (Cond.methodLink RL 65 yX4_row) ∈ LA := LA_t (LT4 (List.mem_of_getElem? (i := 217) rfl)) rfl
set_option maxRecDepth 100000 in
theorem qw938 : (Cond.methodLink RL 150 yL_count) ∈ LA := LA_t (LT4 (List.mem_of_getElem? (i := 218) rfl)) rfl
set_option maxRecDepth 100000 in
theorem qw939 : (Cond.static yL_count) ∈ LA := LA_t (LT4 (List.mem_of_getElem? (i := 219) rfl)) rfl
set_option maxRecDepth 100000 in
theorem qw940 : (Cond.codeWith yL_count cL_count 4 (some .int) [(0, 9, 12, 13)]) ∈ LA := LA_t (LT4 (List.mem_of_getElem? (i := 220) rfl)) rfl
set_option maxRecDepth 100000 in
theorem qw941 : (Cond.methodLink RL 68 yX4_count) ∈ LA := LA_t (LT4 (List.mem_of_getElem? (i := 221) rfl)) rfl
set_option maxRecDepth 100000 in
theorem qw942 : (Cond.methodLink RL 153 yL_whyNot) ∈ LA := LA_t (LT4 (List.mem_of_getElem? (i := 222) rfl)) rfl
set_option maxRecDepth 100000 in
theorem qw943 : (Cond.static yL_whyNot) ∈ LA := LA_t (LT4 (List.mem_of_getElem? (i := 223) rfl)) rfl
set_option maxRecDepth 100000 in
theorem qw944 : (Cond.codeWith yL_whyNot cL_whyNot 6 (some .int) [(0, 12, 15, 13)]) ∈ LA := LA_t (LT4 (List.mem_of_getElem? (i := 224) rfl)) rfl
set_option maxRecDepth 100000 in
theorem qw945 : (Cond.methodLink RL 71 yX4_whyNot) ∈ LA := LA_t (LT4 (List.mem_of_getElem? (i := 225) rfl)) rfl
set_option maxRecDepth 100000 in
theorem qw946 : (Cond.instanceMethod yX4_whyNot) ∈ LA := LA_t (LT4 (List.mem_of_getElem? (i := 226) rfl)) rfl
set_option maxRecDepth 100000 in
theorem qw947 : (Cond.selects RX4 yX4_whyNot yX4_whyNot) ∈ LA := LA_t (LT4 (List.mem_of_getElem? (i := 227) rfl)) rfl
set_option maxRecDepth 100000 in
theorem qw948 : (Cond.code yX4_whyNot cX4_whyNot 4 (some .int)) ∈ LA := LA_t (LT4 (List.mem_of_getElem? (i := 228) rfl)) rfl
set_option maxRecDepth 100000 in
theorem qw949 : (Cond.methodLink RL 160 yL_waysWith) ∈ LA := LA_t (LT4 (List.mem_of_getElem? (i := 229) rfl)) rfl
set_option maxRecDepth 100000 in
theorem qw950 : (Cond.static yL_waysWith) ∈ LA := LA_t (LT4 (List.mem_of_getElem? (i := 230) rfl)) rfl
set_option maxRecDepth 100000 in
theorem qw951 : (Cond.codeWith yL_waysWith cL_waysWith 6 (some .int) [(0, 12, 15, 13)]) ∈ LA := LA_t (LT4 (List.mem_of_getElem? (i := 231) rfl)) rfl
set_option maxRecDepth 100000 in
theorem qw952 : (Cond.methodLink RL 74 yX4_waysWith) ∈ LA := LA_t (LT4 (List.mem_of_getElem? (i := 232) rfl)) rfl
set_option maxRecDepth 100000 in
theorem qw953 : (Cond.methodLink RL 163 yL_forced) ∈ LA := LA_t (LT4 (List.mem_of_getElem? (i := 233) rfl)) rfl
set_option maxRecDepth 100000 in
theorem qw954 : (Cond.static yL_forced) ∈ LA := LA_t (LT4 (List.mem_of_getElem? (i := 234) rfl)) rfl
set_option maxRecDepth 100000 in
theorem qw955 : (Cond.codeWith yL_forced cL_forced 4 (some .int) [(0, 9, 12, 13)]) ∈ LA := LA_t (LT4 (List.mem_of_getElem? (i := 235) rfl)) rfl
set_option maxRecDepth 100000 in
theorem qw956 : (Cond.methodLink RL 77 yX4_forced) ∈ LA := LA_t (LT4 (List.mem_of_getElem? (i := 236) rfl)) rfl
set_option maxRecDepth 100000 in
theorem qw957 : (Cond.classLink RL 81 RX5) ∈ LA := LA_t (LT4 (List.mem_of_getElem? (i := 237) rfl)) rfl
set_option maxRecDepth 100000 in
theorem qw958 : (Cond.instantiable RX5 10) ∈ LA := LA_t (LT4 (List.mem_of_getElem? (i := 238) rfl)) rfl
set_option maxRecDepth 100000 in
theorem qw959 : (Cond.methodLink RL 83 yX5_init) ∈ LA := LA_t (LT4 (List.mem_of_getElem? (i := 239) rfl)) rfl
set_option maxRecDepth 100000 in
theorem qw960 : (Cond.instanceMethod yX5_init) ∈ LA := LA_t (LT5 (List.mem_of_getElem? (i := 0) rfl)) rfl
set_option maxRecDepth 100000 in
theorem qw961 : (Cond.code yX5_init cX5_init 1 none) ∈ LA := LA_t (LT5 (List.mem_of_getElem? (i := 1) rfl)) rfl
set_option maxRecDepth 100000 in
theorem qw962 : (Cond.methodLink RX5 1 objectInit) ∈ LA := LA_t (LT5 (List.mem_of_getElem? (i := 2) rfl)) rfl
set_option maxRecDepth 100000 in
theorem qw963 : (Cond.methodLink RX5 30 yX5_laysOut) ∈ LA := LA_t (LT5 (List.mem_of_getElem? (i := 3) rfl)) rfl
set_option maxRecDepth 100000 in
theorem qw965 : (Cond.instanceMethod yX5_laysOut) ∈ LA := LA_t (LT5 (List.mem_of_getElem? (i := 5) rfl)) rfl
set_option maxRecDepth 100000 in
theorem qw966 : (Cond.code yX5_laysOut cX5_laysOut 5 none) ∈ LA := LA_t (LT5 (List.mem_of_getElem? (i := 6) rfl)) rfl
set_option maxRecDepth 100000 in
theorem qw967 : (Cond.fieldLink RX5 7 "BentGardensModel" "s" "[I") ∈ LA := LA_t (LT5 (List.mem_of_getElem? (i := 7) rfl)) rfl
set_option maxRecDepth 100000 in
theorem qw968 : (Cond.fieldLink RX5 38 "BentGardensModel" "states" "I") ∈ LA := LA_t (LT5 (List.mem_of_getElem? (i := 8) rfl)) rfl
set_option maxRecDepth 100000 in
theorem qw969 : (Cond.fieldLink RX5 13 "BentGardensModel" "isKept" "[Z") ∈ LA := LA_t (LT5 (List.mem_of_getElem? (i := 9) rfl)) rfl
set_option maxRecDepth 100000 in
theorem qw970 : (Cond.fieldLink RX5 34 "BentGardensModel" "thrown" "I") ∈ LA := LA_t (LT5 (List.mem_of_getElem? (i := 10) rfl)) rfl
set_option maxRecDepth 100000 in
theorem qw971 : (Cond.fieldLink RX5 17 "BentGardensModel" "text" "[C") ∈ LA := LA_t (LT5 (List.mem_of_getElem? (i := 11) rfl)) rfl
set_option maxRecDepth 100000 in
theorem qw972 : (Cond.fieldLink RX5 117 "BentGardensModel" "typed" "I") ∈ LA := LA_t (LT5 (List.mem_of_getElem? (i := 12) rfl)) rfl
set_option maxRecDepth 100000 in
theorem qw973 : (Cond.fieldLink RX5 120 "BentGardensModel" "rowsTold" "I") ∈ LA := LA_t (LT5 (List.mem_of_getElem? (i := 13) rfl)) rfl
set_option maxRecDepth 100000 in
theorem qw974 : (Cond.fieldLink RX5 21 "BentGardensModel" "ways" "[I") ∈ LA := LA_t (LT5 (List.mem_of_getElem? (i := 14) rfl)) rfl
set_option maxRecDepth 100000 in
theorem qw975 : (Cond.fieldLink RX5 24 "BentGardensModel" "next" "[I") ∈ LA := LA_t (LT5 (List.mem_of_getElem? (i := 15) rfl)) rfl
set_option maxRecDepth 100000 in
theorem qw976 : (Cond.fieldLink RX5 27 "BentGardensModel" "square" "[I") ∈ LA := LA_t (LT5 (List.mem_of_getElem? (i := 16) rfl)) rfl
set_option maxRecDepth 100000 in
theorem qw977 : (Cond.laysFinal RX5 "BentGardensModel" "s" "[I") ∈ LA := LA_t (LT5 (List.mem_of_getElem? (i := 17) rfl)) rfl
set_option maxRecDepth 100000 in
theorem qw979 : (Cond.lays RX5 "BentGardensModel" "states" "I") ∈ LA := LA_t (LT5 (List.mem_of_getElem? (i := 19) rfl)) rfl
set_option maxRecDepth 100000 in
theorem qw981 : (Cond.laysFinal RX5 "BentGardensModel" "isKept" "[Z") ∈ LA := LA_t (LT5 (List.mem_of_getElem? (i := 21) rfl)) rfl
set_option maxRecDepth 100000 in
theorem qw983 : (Cond.lays RX5 "BentGardensModel" "thrown" "I") ∈ LA := LA_t (LT5 (List.mem_of_getElem? (i := 23) rfl)) rfl
set_option maxRecDepth 100000 in
theorem qw985 : (Cond.laysFinal RX5 "BentGardensModel" "text" "[C") ∈ LA := LA_t (LT5 (List.mem_of_getElem? (i := 25) rfl)) rfl
set_option maxRecDepth 100000 in
theorem qw987 : (Cond.lays RX5 "BentGardensModel" "typed" "I") ∈ LA := LA_t (LT5 (List.mem_of_getElem? (i := 27) rfl)) rfl
set_option maxRecDepth 100000 in
theorem qw989 : (Cond.lays RX5 "BentGardensModel" "rowsTold" "I") ∈ LA := LA_t (LT5 (List.mem_of_getElem? (i := 29) rfl)) rfl
set_option maxRecDepth 100000 in
theorem qw991 : (Cond.laysFinal RX5 "BentGardensModel" "ways" "[I") ∈ LA := LA_t (LT5 (List.mem_of_getElem? (i := 31) rfl)) rfl
set_option maxRecDepth 100000 in
theorem qw993 : (Cond.laysFinal RX5 "BentGardensModel" "next" "[I") ∈ LA := LA_t (LT5 (List.mem_of_getElem? (i := 33) rfl)) rfl
set_option maxRecDepth 100000 in
theorem qw995 : (Cond.laysFinal RX5 "BentGardensModel" "square" "[I") ∈ LA := LA_t (LT5 (List.mem_of_getElem? (i := 35) rfl)) rfl
set_option maxRecDepth 100000 in
theorem qw998 : (Cond.arrayClass .boolean) ∈ LA := LA_t (LT5 (List.mem_of_getElem? (i := 38) rfl)) rfl
set_option maxRecDepth 100000 in
theorem qw999 : (Cond.arrayClass .char) ∈ LA := LA_t (LT5 (List.mem_of_getElem? (i := 39) rfl)) rfl
set_option maxRecDepth 100000 in
theorem qw1000 : (Cond.methodLink RL 90 yX5_thrown) ∈ LA := LA_t (LT5 (List.mem_of_getElem? (i := 40) rfl)) rfl
set_option maxRecDepth 100000 in
theorem qw1001 : (Cond.instanceMethod yX5_thrown) ∈ LA := LA_t (LT5 (List.mem_of_getElem? (i := 41) rfl)) rfl
set_option maxRecDepth 100000 in
theorem qw1002 : (Cond.selects RX5 yX5_thrown yX5_thrown) ∈ LA := LA_t (LT5 (List.mem_of_getElem? (i := 42) rfl)) rfl
set_option maxRecDepth 100000 in
theorem qw1003 : (Cond.code yX5_thrown cX5_thrown 1 (some .int)) ∈ LA := LA_t (LT5 (List.mem_of_getElem? (i := 43) rfl)) rfl
set_option maxRecDepth 100000 in
theorem qw1004 : (Cond.methodLink RL 89 yX5_garden) ∈ LA := LA_t (LT5 (List.mem_of_getElem? (i := 44) rfl)) rfl
set_option maxRecDepth 100000 in
theorem qw1005 : (Cond.instanceMethod yX5_garden) ∈ LA := LA_t (LT5 (List.mem_of_getElem? (i := 45) rfl)) rfl
set_option maxRecDepth 100000 in
theorem qw1006 : (Cond.selects RX5 yX5_garden yX5_garden) ∈ LA := LA_t (LT5 (List.mem_of_getElem? (i := 46) rfl)) rfl
set_option maxRecDepth 100000 in
theorem qw1007 : (Cond.code yX5_garden cX5_garden 3 (some .int)) ∈ LA := LA_t (LT5 (List.mem_of_getElem? (i := 47) rfl)) rfl
set_option maxRecDepth 100000 in
theorem qw1008 : (Cond.methodLink RX5 45 yX5_in) ∈ LA := LA_t (LT5 (List.mem_of_getElem? (i := 48) rfl)) rfl
set_option maxRecDepth 100000 in
theorem qw1009 : (Cond.static yX5_in) ∈ LA := LA_t (LT5 (List.mem_of_getElem? (i := 49) rfl)) rfl
set_option maxRecDepth 100000 in
theorem qw1010 : (Cond.code yX5_in cX5_in 3 (some .boolean)) ∈ LA := LA_t (LT5 (List.mem_of_getElem? (i := 50) rfl)) rfl
set_option maxRecDepth 100000 in
theorem qw1011 : (Cond.methodLink RX5 81 yX5_goes) ∈ LA := LA_t (LT5 (List.mem_of_getElem? (i := 51) rfl)) rfl
set_option maxRecDepth 100000 in
theorem qw1013 : (Cond.instanceMethod yX5_goes) ∈ LA := LA_t (LT5 (List.mem_of_getElem? (i := 53) rfl)) rfl
set_option maxRecDepth 100000 in
theorem qw1014 : (Cond.code yX5_goes cX5_goes 3 (some .boolean)) ∈ LA := LA_t (LT5 (List.mem_of_getElem? (i := 54) rfl)) rfl
set_option maxRecDepth 100000 in
theorem qw1015 : (Cond.methodLink RX5 85 yX5_saves) ∈ LA := LA_t (LT5 (List.mem_of_getElem? (i := 55) rfl)) rfl
set_option maxRecDepth 100000 in
theorem qw1017 : (Cond.instanceMethod yX5_saves) ∈ LA := LA_t (LT5 (List.mem_of_getElem? (i := 57) rfl)) rfl
set_option maxRecDepth 100000 in
theorem qw1018 : (Cond.code yX5_saves cX5_saves 2 none) ∈ LA := LA_t (LT5 (List.mem_of_getElem? (i := 58) rfl)) rfl
set_option maxRecDepth 100000 in
theorem qw1019 : (Cond.methodLink RX5 41 yX5_copies) ∈ LA := LA_t (LT5 (List.mem_of_getElem? (i := 59) rfl)) rfl
set_option maxRecDepth 100000 in
theorem qw1021 : (Cond.instanceMethod yX5_copies) ∈ LA := LA_t (LT5 (List.mem_of_getElem? (i := 61) rfl)) rfl
set_option maxRecDepth 100000 in
theorem qw1022 : (Cond.code yX5_copies cX5_copies 4 none) ∈ LA := LA_t (LT5 (List.mem_of_getElem? (i := 62) rfl)) rfl
set_option maxRecDepth 100000 in
theorem qw1023 : (Cond.methodLink RL 95 yX5_pond) ∈ LA := LA_t (LT5 (List.mem_of_getElem? (i := 63) rfl)) rfl
set_option maxRecDepth 100000 in
theorem qw1024 : (Cond.instanceMethod yX5_pond) ∈ LA := LA_t (LT5 (List.mem_of_getElem? (i := 64) rfl)) rfl
set_option maxRecDepth 100000 in
theorem qw1025 : (Cond.selects RX5 yX5_pond yX5_pond) ∈ LA := LA_t (LT5 (List.mem_of_getElem? (i := 65) rfl)) rfl
set_option maxRecDepth 100000 in
theorem qw1026 : (Cond.code yX5_pond cX5_pond 6 (some .int)) ∈ LA := LA_t (LT5 (List.mem_of_getElem? (i := 66) rfl)) rfl
set_option maxRecDepth 100000 in
theorem qw1027 : (Cond.methodLink RX5 88 yX5_isIn) ∈ LA := LA_t (LT5 (List.mem_of_getElem? (i := 67) rfl)) rfl
set_option maxRecDepth 100000 in
theorem qw1029 : (Cond.instanceMethod yX5_isIn) ∈ LA := LA_t (LT5 (List.mem_of_getElem? (i := 69) rfl)) rfl
set_option maxRecDepth 100000 in
theorem qw1030 : (Cond.code yX5_isIn cX5_isIn 3 (some .boolean)) ∈ LA := LA_t (LT5 (List.mem_of_getElem? (i := 70) rfl)) rfl
set_option maxRecDepth 100000 in
theorem qw1031 : (Cond.methodLink RL 98 yX5_wall) ∈ LA := LA_t (LT5 (List.mem_of_getElem? (i := 71) rfl)) rfl
set_option maxRecDepth 100000 in
theorem qw1032 : (Cond.instanceMethod yX5_wall) ∈ LA := LA_t (LT5 (List.mem_of_getElem? (i := 72) rfl)) rfl
set_option maxRecDepth 100000 in
theorem qw1033 : (Cond.selects RX5 yX5_wall yX5_wall) ∈ LA := LA_t (LT5 (List.mem_of_getElem? (i := 73) rfl)) rfl
set_option maxRecDepth 100000 in
theorem qw1034 : (Cond.code yX5_wall cX5_wall 5 (some .int)) ∈ LA := LA_t (LT5 (List.mem_of_getElem? (i := 74) rfl)) rfl
set_option maxRecDepth 100000 in
theorem qw1035 : (Cond.methodLink RX5 91 yX5_walls) ∈ LA := LA_t (LT5 (List.mem_of_getElem? (i := 75) rfl)) rfl
set_option maxRecDepth 100000 in
theorem qw1037 : (Cond.instanceMethod yX5_walls) ∈ LA := LA_t (LT5 (List.mem_of_getElem? (i := 77) rfl)) rfl
set_option maxRecDepth 100000 in
theorem qw1038 : (Cond.code yX5_walls cX5_walls 3 (some .int)) ∈ LA := LA_t (LT5 (List.mem_of_getElem? (i := 78) rfl)) rfl
set_option maxRecDepth 100000 in
theorem qw1039 : (Cond.methodLink RL 102 yX5_lay) ∈ LA := LA_t (LT5 (List.mem_of_getElem? (i := 79) rfl)) rfl
set_option maxRecDepth 100000 in
theorem qw1040 : (Cond.instanceMethod yX5_lay) ∈ LA := LA_t (LT5 (List.mem_of_getElem? (i := 80) rfl)) rfl
set_option maxRecDepth 100000 in
theorem qw1041 : (Cond.selects RX5 yX5_lay yX5_lay) ∈ LA := LA_t (LT5 (List.mem_of_getElem? (i := 81) rfl)) rfl
set_option maxRecDepth 100000 in
theorem qw1042 : (Cond.code yX5_lay cX5_lay 5 (some .int)) ∈ LA := LA_t (LT5 (List.mem_of_getElem? (i := 82) rfl)) rfl
set_option maxRecDepth 100000 in
theorem qw1043 : (Cond.methodLink RX5 53 yX5_wrong) ∈ LA := LA_t (LT5 (List.mem_of_getElem? (i := 83) rfl)) rfl
set_option maxRecDepth 100000 in
theorem qw1045 : (Cond.instanceMethod yX5_wrong) ∈ LA := LA_t (LT5 (List.mem_of_getElem? (i := 85) rfl)) rfl
set_option maxRecDepth 100000 in
theorem qw1046 : (Cond.code yX5_wrong cX5_wrong 9 (some .int)) ∈ LA := LA_t (LT5 (List.mem_of_getElem? (i := 86) rfl)) rfl
set_option maxRecDepth 100000 in
theorem qw1047 : (Cond.methodLink RX5 49 yX5_ofBlock) ∈ LA := LA_t (LT5 (List.mem_of_getElem? (i := 87) rfl)) rfl
set_option maxRecDepth 100000 in
theorem qw1048 : (Cond.static yX5_ofBlock) ∈ LA := LA_t (LT5 (List.mem_of_getElem? (i := 88) rfl)) rfl
set_option maxRecDepth 100000 in
theorem qw1049 : (Cond.code yX5_ofBlock cX5_ofBlock 3 (some .int)) ∈ LA := LA_t (LT5 (List.mem_of_getElem? (i := 89) rfl)) rfl
set_option maxRecDepth 100000 in
theorem qw1050 : (Cond.methodLink RX5 70 yX5_lays) ∈ LA := LA_t (LT5 (List.mem_of_getElem? (i := 90) rfl)) rfl
set_option maxRecDepth 100000 in
theorem qw1052 : (Cond.instanceMethod yX5_lays) ∈ LA := LA_t (LT5 (List.mem_of_getElem? (i := 92) rfl)) rfl
set_option maxRecDepth 100000 in
theorem qw1053 : (Cond.code yX5_lays cX5_lays 7 none) ∈ LA := LA_t (LT5 (List.mem_of_getElem? (i := 93) rfl)) rfl
set_option maxRecDepth 100000 in
theorem qw1054 : (Cond.methodLink RL 105 yX5_lift) ∈ LA := LA_t (LT5 (List.mem_of_getElem? (i := 94) rfl)) rfl
set_option maxRecDepth 100000 in
theorem qw1055 : (Cond.instanceMethod yX5_lift) ∈ LA := LA_t (LT5 (List.mem_of_getElem? (i := 95) rfl)) rfl
set_option maxRecDepth 100000 in
theorem qw1056 : (Cond.selects RX5 yX5_lift yX5_lift) ∈ LA := LA_t (LT5 (List.mem_of_getElem? (i := 96) rfl)) rfl
set_option maxRecDepth 100000 in
theorem qw1057 : (Cond.code yX5_lift cX5_lift 5 (some .int)) ∈ LA := LA_t (LT5 (List.mem_of_getElem? (i := 97) rfl)) rfl
set_option maxRecDepth 100000 in
theorem qw1058 : (Cond.methodLink RX5 78 yX5_lifts) ∈ LA := LA_t (LT5 (List.mem_of_getElem? (i := 98) rfl)) rfl
set_option maxRecDepth 100000 in
theorem qw1060 : (Cond.instanceMethod yX5_lifts) ∈ LA := LA_t (LT5 (List.mem_of_getElem? (i := 100) rfl)) rfl
set_option maxRecDepth 100000 in
theorem qw1061 : (Cond.code yX5_lifts cX5_lifts 5 none) ∈ LA := LA_t (LT5 (List.mem_of_getElem? (i := 101) rfl)) rfl
set_option maxRecDepth 100000 in
theorem qw1062 : (Cond.methodLink RL 109 yX5_flip) ∈ LA := LA_t (LT5 (List.mem_of_getElem? (i := 102) rfl)) rfl
set_option maxRecDepth 100000 in
theorem qw1063 : (Cond.instanceMethod yX5_flip) ∈ LA := LA_t (LT5 (List.mem_of_getElem? (i := 103) rfl)) rfl
set_option maxRecDepth 100000 in
theorem qw1064 : (Cond.selects RX5 yX5_flip yX5_flip) ∈ LA := LA_t (LT5 (List.mem_of_getElem? (i := 104) rfl)) rfl
set_option maxRecDepth 100000 in
theorem qw1065 : (Cond.code yX5_flip cX5_flip 7 (some .int)) ∈ LA := LA_t (LT5 (List.mem_of_getElem? (i := 105) rfl)) rfl
set_option maxRecDepth 100000 in
theorem qw1066 : (Cond.methodLink RX5 95 yX5_isBlock) ∈ LA := LA_t (LT5 (List.mem_of_getElem? (i := 106) rfl)) rfl
set_option maxRecDepth 100000 in
theorem qw1068 : (Cond.instanceMethod yX5_isBlock) ∈ LA := LA_t (LT5 (List.mem_of_getElem? (i := 108) rfl)) rfl
set_option maxRecDepth 100000 in
theorem qw1069 : (Cond.code yX5_isBlock cX5_isBlock 4 (some .boolean)) ∈ LA := LA_t (LT5 (List.mem_of_getElem? (i := 109) rfl)) rfl
set_option maxRecDepth 100000 in
theorem qw1070 : (Cond.methodLink RX5 99 yX5_turnOf) ∈ LA := LA_t (LT5 (List.mem_of_getElem? (i := 110) rfl)) rfl
set_option maxRecDepth 100000 in
theorem qw1072 : (Cond.instanceMethod yX5_turnOf) ∈ LA := LA_t (LT5 (List.mem_of_getElem? (i := 112) rfl)) rfl
set_option maxRecDepth 100000 in
theorem qw1073 : (Cond.code yX5_turnOf cX5_turnOf 11 (some .int)) ∈ LA := LA_t (LT5 (List.mem_of_getElem? (i := 113) rfl)) rfl
set_option maxRecDepth 100000 in
theorem qw1074 : (Cond.methodLink RL 113 yX5_fill) ∈ LA := LA_t (LT5 (List.mem_of_getElem? (i := 114) rfl)) rfl
set_option maxRecDepth 100000 in
theorem qw1075 : (Cond.instanceMethod yX5_fill) ∈ LA := LA_t (LT5 (List.mem_of_getElem? (i := 115) rfl)) rfl
set_option maxRecDepth 100000 in
theorem qw1076 : (Cond.selects RX5 yX5_fill yX5_fill) ∈ LA := LA_t (LT5 (List.mem_of_getElem? (i := 116) rfl)) rfl
set_option maxRecDepth 100000 in
theorem qw1077 : (Cond.code yX5_fill cX5_fill 1 (some .int)) ∈ LA := LA_t (LT5 (List.mem_of_getElem? (i := 117) rfl)) rfl
set_option maxRecDepth 100000 in
theorem qw1078 : (Cond.methodLink RX5 74 yX5_paves) ∈ LA := LA_t (LT5 (List.mem_of_getElem? (i := 118) rfl)) rfl
set_option maxRecDepth 100000 in
theorem qw1080 : (Cond.instanceMethod yX5_paves) ∈ LA := LA_t (LT5 (List.mem_of_getElem? (i := 120) rfl)) rfl
set_option maxRecDepth 100000 in
theorem qw1081 : (Cond.code yX5_paves cX5_paves 10 (some .int)) ∈ LA := LA_t (LT5 (List.mem_of_getElem? (i := 121) rfl)) rfl
set_option maxRecDepth 100000 in
theorem qw1082 : (Cond.methodLink RX5 57 yX5_clears) ∈ LA := LA_t (LT5 (List.mem_of_getElem? (i := 122) rfl)) rfl
set_option maxRecDepth 100000 in
theorem qw1084 : (Cond.instanceMethod yX5_clears) ∈ LA := LA_t (LT5 (List.mem_of_getElem? (i := 124) rfl)) rfl
set_option maxRecDepth 100000 in
theorem qw1085 : (Cond.code yX5_clears cX5_clears 2 none) ∈ LA := LA_t (LT5 (List.mem_of_getElem? (i := 125) rfl)) rfl
set_option maxRecDepth 100000 in
theorem qw1086 : (Cond.methodLink RX5 60 yX5_takes) ∈ LA := LA_t (LT5 (List.mem_of_getElem? (i := 126) rfl)) rfl
set_option maxRecDepth 100000 in
theorem qw1088 : (Cond.instanceMethod yX5_takes) ∈ LA := LA_t (LT5 (List.mem_of_getElem? (i := 128) rfl)) rfl
set_option maxRecDepth 100000 in
theorem qw1089 : (Cond.code yX5_takes cX5_takes 2 none) ∈ LA := LA_t (LT5 (List.mem_of_getElem? (i := 129) rfl)) rfl
set_option maxRecDepth 100000 in
theorem qw1090 : (Cond.methodLink RX5 63 yX5_isFree) ∈ LA := LA_t (LT5 (List.mem_of_getElem? (i := 130) rfl)) rfl
set_option maxRecDepth 100000 in
theorem qw1092 : (Cond.instanceMethod yX5_isFree) ∈ LA := LA_t (LT5 (List.mem_of_getElem? (i := 132) rfl)) rfl
set_option maxRecDepth 100000 in
theorem qw1093 : (Cond.code yX5_isFree cX5_isFree 3 (some .boolean)) ∈ LA := LA_t (LT5 (List.mem_of_getElem? (i := 133) rfl)) rfl
set_option maxRecDepth 100000 in
theorem qw1094 : (Cond.methodLink RX5 67 yX5_covers) ∈ LA := LA_t (LT5 (List.mem_of_getElem? (i := 134) rfl)) rfl
set_option maxRecDepth 100000 in
theorem qw1096 : (Cond.instanceMethod yX5_covers) ∈ LA := LA_t (LT5 (List.mem_of_getElem? (i := 136) rfl)) rfl
set_option maxRecDepth 100000 in
theorem qw1097 : (Cond.code yX5_covers cX5_covers 7 (some .int)) ∈ LA := LA_t (LT5 (List.mem_of_getElem? (i := 137) rfl)) rfl
set_option maxRecDepth 100000 in
theorem qw1098 : (Cond.methodLink RX5 103 yX5_fills) ∈ LA := LA_t (LT5 (List.mem_of_getElem? (i := 138) rfl)) rfl
set_option maxRecDepth 100000 in
theorem qw1100 : (Cond.instanceMethod yX5_fills) ∈ LA := LA_t (LT5 (List.mem_of_getElem? (i := 140) rfl)) rfl
set_option maxRecDepth 100000 in
theorem qw1101 : (Cond.code yX5_fills cX5_fills 8 (some .int)) ∈ LA := LA_t (LT5 (List.mem_of_getElem? (i := 141) rfl)) rfl
set_option maxRecDepth 100000 in
theorem qw1102 : (Cond.methodLink RL 116 yX5_halve) ∈ LA := LA_t (LT5 (List.mem_of_getElem? (i := 142) rfl)) rfl
set_option maxRecDepth 100000 in
theorem qw1103 : (Cond.instanceMethod yX5_halve) ∈ LA := LA_t (LT5 (List.mem_of_getElem? (i := 143) rfl)) rfl
set_option maxRecDepth 100000 in
theorem qw1104 : (Cond.selects RX5 yX5_halve yX5_halve) ∈ LA := LA_t (LT5 (List.mem_of_getElem? (i := 144) rfl)) rfl
set_option maxRecDepth 100000 in
theorem qw1105 : (Cond.code yX5_halve cX5_halve 10 (some .int)) ∈ LA := LA_t (LT5 (List.mem_of_getElem? (i := 145) rfl)) rfl
set_option maxRecDepth 100000 in
theorem qw1106 : (Cond.methodLink RX5 106 yX5_areSquares) ∈ LA := LA_t (LT5 (List.mem_of_getElem? (i := 146) rfl)) rfl
set_option maxRecDepth 100000 in
theorem qw1108 : (Cond.instanceMethod yX5_areSquares) ∈ LA := LA_t (LT5 (List.mem_of_getElem? (i := 148) rfl)) rfl
set_option maxRecDepth 100000 in
theorem qw1109 : (Cond.code yX5_areSquares cX5_areSquares 2 (some .boolean)) ∈ LA := LA_t (LT5 (List.mem_of_getElem? (i := 149) rfl)) rfl
set_option maxRecDepth 100000 in
theorem qw1110 : (Cond.methodLink RX5 110 yX5_pushes) ∈ LA := LA_t (LT5 (List.mem_of_getElem? (i := 150) rfl)) rfl
set_option maxRecDepth 100000 in
theorem qw1112 : (Cond.instanceMethod yX5_pushes) ∈ LA := LA_t (LT5 (List.mem_of_getElem? (i := 152) rfl)) rfl
set_option maxRecDepth 100000 in
theorem qw1113 : (Cond.code yX5_pushes cX5_pushes 6 none) ∈ LA := LA_t (LT5 (List.mem_of_getElem? (i := 153) rfl)) rfl
set_option maxRecDepth 100000 in
theorem qw1114 : (Cond.methodLink RX5 114 yX5_quarter) ∈ LA := LA_t (LT5 (List.mem_of_getElem? (i := 154) rfl)) rfl
set_option maxRecDepth 100000 in
theorem qw1116 : (Cond.instanceMethod yX5_quarter) ∈ LA := LA_t (LT5 (List.mem_of_getElem? (i := 156) rfl)) rfl
set_option maxRecDepth 100000 in
theorem qw1117 : (Cond.code yX5_quarter cX5_quarter 5 (some .int)) ∈ LA := LA_t (LT5 (List.mem_of_getElem? (i := 157) rfl)) rfl
set_option maxRecDepth 100000 in
theorem qw1118 : (Cond.methodLink RL 120 yX5_append) ∈ LA := LA_t (LT5 (List.mem_of_getElem? (i := 158) rfl)) rfl
set_option maxRecDepth 100000 in
theorem qw1119 : (Cond.instanceMethod yX5_append) ∈ LA := LA_t (LT5 (List.mem_of_getElem? (i := 159) rfl)) rfl
set_option maxRecDepth 100000 in
theorem qw1120 : (Cond.selects RX5 yX5_append yX5_append) ∈ LA := LA_t (LT5 (List.mem_of_getElem? (i := 160) rfl)) rfl
set_option maxRecDepth 100000 in
theorem qw1121 : (Cond.code yX5_append cX5_append 2 (some .int)) ∈ LA := LA_t (LT5 (List.mem_of_getElem? (i := 161) rfl)) rfl
set_option maxRecDepth 100000 in
theorem qw1122 : (Cond.methodLink RL 124 yX5_clearBuffer) ∈ LA := LA_t (LT5 (List.mem_of_getElem? (i := 162) rfl)) rfl
set_option maxRecDepth 100000 in
theorem qw1123 : (Cond.instanceMethod yX5_clearBuffer) ∈ LA := LA_t (LT5 (List.mem_of_getElem? (i := 163) rfl)) rfl
set_option maxRecDepth 100000 in
theorem qw1124 : (Cond.selects RX5 yX5_clearBuffer yX5_clearBuffer) ∈ LA := LA_t (LT5 (List.mem_of_getElem? (i := 164) rfl)) rfl
set_option maxRecDepth 100000 in
theorem qw1125 : (Cond.code yX5_clearBuffer cX5_clearBuffer 2 (some .int)) ∈ LA := LA_t (LT5 (List.mem_of_getElem? (i := 165) rfl)) rfl
set_option maxRecDepth 100000 in
theorem qw1126 : (Cond.methodLink RL 128 yX5_firstError) ∈ LA := LA_t (LT5 (List.mem_of_getElem? (i := 166) rfl)) rfl
set_option maxRecDepth 100000 in
theorem qw1127 : (Cond.instanceMethod yX5_firstError) ∈ LA := LA_t (LT5 (List.mem_of_getElem? (i := 167) rfl)) rfl
set_option maxRecDepth 100000 in
theorem qw1128 : (Cond.selects RX5 yX5_firstError yX5_firstError) ∈ LA := LA_t (LT5 (List.mem_of_getElem? (i := 168) rfl)) rfl
set_option maxRecDepth 100000 in
theorem qw1129 : (Cond.code yX5_firstError cX5_firstError 2 (some .int)) ∈ LA := LA_t (LT5 (List.mem_of_getElem? (i := 169) rfl)) rfl
set_option maxRecDepth 100000 in
theorem qw1130 : (Cond.methodLink RX5 123 yX5_error) ∈ LA := LA_t (LT5 (List.mem_of_getElem? (i := 170) rfl)) rfl
set_option maxRecDepth 100000 in
theorem qw1132 : (Cond.instanceMethod yX5_error) ∈ LA := LA_t (LT5 (List.mem_of_getElem? (i := 172) rfl)) rfl
set_option maxRecDepth 100000 in
theorem qw1133 : (Cond.code yX5_error cX5_error 10 (some .int)) ∈ LA := LA_t (LT5 (List.mem_of_getElem? (i := 173) rfl)) rfl
set_option maxRecDepth 100000 in
theorem qw1134 : (Cond.methodLink RL 131 yX5_load) ∈ LA := LA_t (LT5 (List.mem_of_getElem? (i := 174) rfl)) rfl
set_option maxRecDepth 100000 in
theorem qw1135 : (Cond.instanceMethod yX5_load) ∈ LA := LA_t (LT5 (List.mem_of_getElem? (i := 175) rfl)) rfl
set_option maxRecDepth 100000 in
theorem qw1136 : (Cond.selects RX5 yX5_load yX5_load) ∈ LA := LA_t (LT5 (List.mem_of_getElem? (i := 176) rfl)) rfl
set_option maxRecDepth 100000 in
theorem qw1137 : (Cond.code yX5_load cX5_load 4 (some .int)) ∈ LA := LA_t (LT5 (List.mem_of_getElem? (i := 177) rfl)) rfl
set_option maxRecDepth 100000 in
theorem qw1138 : (Cond.methodLink RX5 126 yX5_free) ∈ LA := LA_t (LT5 (List.mem_of_getElem? (i := 178) rfl)) rfl
set_option maxRecDepth 100000 in
theorem qw1140 : (Cond.instanceMethod yX5_free) ∈ LA := LA_t (LT5 (List.mem_of_getElem? (i := 180) rfl)) rfl
set_option maxRecDepth 100000 in
theorem qw1141 : (Cond.code yX5_free cX5_free 3 (some .int)) ∈ LA := LA_t (LT5 (List.mem_of_getElem? (i := 181) rfl)) rfl
set_option maxRecDepth 100000 in
theorem qw1142 : (Cond.methodLink RL 134 yX5_keep) ∈ LA := LA_t (LT5 (List.mem_of_getElem? (i := 182) rfl)) rfl
set_option maxRecDepth 100000 in
theorem qw1143 : (Cond.instanceMethod yX5_keep) ∈ LA := LA_t (LT5 (List.mem_of_getElem? (i := 183) rfl)) rfl
set_option maxRecDepth 100000 in
theorem qw1144 : (Cond.selects RX5 yX5_keep yX5_keep) ∈ LA := LA_t (LT5 (List.mem_of_getElem? (i := 184) rfl)) rfl
set_option maxRecDepth 100000 in
theorem qw1145 : (Cond.code yX5_keep cX5_keep 2 (some .int)) ∈ LA := LA_t (LT5 (List.mem_of_getElem? (i := 185) rfl)) rfl
set_option maxRecDepth 100000 in
theorem qw1146 : (Cond.methodLink RL 137 yX5_goBack) ∈ LA := LA_t (LT5 (List.mem_of_getElem? (i := 186) rfl)) rfl
set_option maxRecDepth 100000 in
theorem qw1147 : (Cond.instanceMethod yX5_goBack) ∈ LA := LA_t (LT5 (List.mem_of_getElem? (i := 187) rfl)) rfl
set_option maxRecDepth 100000 in
theorem qw1148 : (Cond.selects RX5 yX5_goBack yX5_goBack) ∈ LA := LA_t (LT5 (List.mem_of_getElem? (i := 188) rfl)) rfl
set_option maxRecDepth 100000 in
theorem qw1149 : (Cond.code yX5_goBack cX5_goBack 2 (some .int)) ∈ LA := LA_t (LT5 (List.mem_of_getElem? (i := 189) rfl)) rfl
set_option maxRecDepth 100000 in
theorem qw1150 : (Cond.methodLink RL 140 yX5_undo) ∈ LA := LA_t (LT5 (List.mem_of_getElem? (i := 190) rfl)) rfl
set_option maxRecDepth 100000 in
theorem qw1151 : (Cond.instanceMethod yX5_undo) ∈ LA := LA_t (LT5 (List.mem_of_getElem? (i := 191) rfl)) rfl
set_option maxRecDepth 100000 in
theorem qw1152 : (Cond.selects RX5 yX5_undo yX5_undo) ∈ LA := LA_t (LT5 (List.mem_of_getElem? (i := 192) rfl)) rfl
set_option maxRecDepth 100000 in
theorem qw1153 : (Cond.code yX5_undo cX5_undo 1 (some .int)) ∈ LA := LA_t (LT5 (List.mem_of_getElem? (i := 193) rfl)) rfl
set_option maxRecDepth 100000 in
theorem qw1154 : (Cond.methodLink RL 143 yX5_cell) ∈ LA := LA_t (LT5 (List.mem_of_getElem? (i := 194) rfl)) rfl
set_option maxRecDepth 100000 in
theorem qw1155 : (Cond.instanceMethod yX5_cell) ∈ LA := LA_t (LT5 (List.mem_of_getElem? (i := 195) rfl)) rfl
set_option maxRecDepth 100000 in
theorem qw1156 : (Cond.selects RX5 yX5_cell yX5_cell) ∈ LA := LA_t (LT5 (List.mem_of_getElem? (i := 196) rfl)) rfl
set_option maxRecDepth 100000 in
theorem qw1157 : (Cond.code yX5_cell cX5_cell 4 (some .int)) ∈ LA := LA_t (LT5 (List.mem_of_getElem? (i := 197) rfl)) rfl
set_option maxRecDepth 100000 in
theorem qw1158 : (Cond.methodLink RX5 137 yX5_cells) ∈ LA := LA_t (LT5 (List.mem_of_getElem? (i := 198) rfl)) rfl
set_option maxRecDepth 100000 in
theorem qw1160 : (Cond.instanceMethod yX5_cells) ∈ LA := LA_t (LT5 (List.mem_of_getElem? (i := 200) rfl)) rfl
set_option maxRecDepth 100000 in
theorem qw1161 : (Cond.code yX5_cells cX5_cells 3 (some .int)) ∈ LA := LA_t (LT5 (List.mem_of_getElem? (i := 201) rfl)) rfl
set_option maxRecDepth 100000 in
theorem qw1162 : (Cond.methodLink RX5 133 yX5_could) ∈ LA := LA_t (LT5 (List.mem_of_getElem? (i := 202) rfl)) rfl
set_option maxRecDepth 100000 in
theorem qw1164 : (Cond.instanceMethod yX5_could) ∈ LA := LA_t (LT5 (List.mem_of_getElem? (i := 204) rfl)) rfl
set_option maxRecDepth 100000 in
theorem qw1165 : (Cond.code yX5_could cX5_could 8 (some .int)) ∈ LA := LA_t (LT5 (List.mem_of_getElem? (i := 205) rfl)) rfl
set_option maxRecDepth 100000 in
theorem qw1166 : (Cond.methodLink RX5 129 yX5_isOfTriple) ∈ LA := LA_t (LT5 (List.mem_of_getElem? (i := 206) rfl)) rfl
set_option maxRecDepth 100000 in
theorem qw1167 : (Cond.static yX5_isOfTriple) ∈ LA := LA_t (LT5 (List.mem_of_getElem? (i := 207) rfl)) rfl
set_option maxRecDepth 100000 in
theorem qw1168 : (Cond.code yX5_isOfTriple cX5_isOfTriple 6 (some .boolean)) ∈ LA := LA_t (LT5 (List.mem_of_getElem? (i := 208) rfl)) rfl
set_option maxRecDepth 100000 in
theorem qw1169 : (Cond.methodLink RL 146 yX5_triple) ∈ LA := LA_t (LT5 (List.mem_of_getElem? (i := 209) rfl)) rfl
set_option maxRecDepth 100000 in
theorem qw1170 : (Cond.instanceMethod yX5_triple) ∈ LA := LA_t (LT5 (List.mem_of_getElem? (i := 210) rfl)) rfl
set_option maxRecDepth 100000 in
theorem qw1171 : (Cond.selects RX5 yX5_triple yX5_triple) ∈ LA := LA_t (LT5 (List.mem_of_getElem? (i := 211) rfl)) rfl
set_option maxRecDepth 100000 in
theorem qw1172 : (Cond.code yX5_triple cX5_triple 3 (some .int)) ∈ LA := LA_t (LT5 (List.mem_of_getElem? (i := 212) rfl)) rfl
set_option maxRecDepth 100000 in
theorem qw1173 : (Cond.methodLink RL 149 yX5_row) ∈ LA := LA_t (LT5 (List.mem_of_getElem? (i := 213) rfl)) rfl
set_option maxRecDepth 100000 in
theorem qw1174 : (Cond.instanceMethod yX5_row) ∈ LA := LA_t (LT5 (List.mem_of_getElem? (i := 214) rfl)) rfl
set_option maxRecDepth 100000 in
theorem qw1175 : (Cond.selects RX5 yX5_row yX5_row) ∈ LA := LA_t (LT5 (List.mem_of_getElem? (i := 215) rfl)) rfl
set_option maxRecDepth 100000 in
theorem qw1176 : (Cond.code yX5_row cX5_row 3 (some .int)) ∈ LA := LA_t (LT5 (List.mem_of_getElem? (i := 216) rfl)) rfl
set_option maxRecDepth 100000 in
theorem qw1177 : (Cond.methodLink RX5 141 yX5_mask) ∈ LA := LA_t (LT5 (List.mem_of_getElem? (i := 217) rfl)) rfl
set_option maxRecDepth 100000 in
theorem qw1179 : (Cond.instanceMethod yX5_mask) ∈ LA := LA_t (LT5 (List.mem_of_getElem? (i := 219) rfl)) rfl
set_option maxRecDepth 100000 in
theorem qw1180 : (Cond.code yX5_mask cX5_mask 6 (some .int)) ∈ LA := LA_t (LT5 (List.mem_of_getElem? (i := 220) rfl)) rfl
set_option maxRecDepth 100000 in
theorem qw1181 : (Cond.methodLink RL 152 yX5_count) ∈ LA := LA_t (LT5 (List.mem_of_getElem? (i := 221) rfl)) rfl
set_option maxRecDepth 100000 in
theorem qw1182 : (Cond.instanceMethod yX5_count) ∈ LA := LA_t (LT5 (List.mem_of_getElem? (i := 222) rfl)) rfl
set_option maxRecDepth 100000 in
theorem qw1183 : (Cond.selects RX5 yX5_count yX5_count) ∈ LA := LA_t (LT5 (List.mem_of_getElem? (i := 223) rfl)) rfl
set_option maxRecDepth 100000 in
theorem qw1184 : (Cond.code yX5_count cX5_count 2 (some .int)) ∈ LA := LA_t (LT5 (List.mem_of_getElem? (i := 224) rfl)) rfl
set_option maxRecDepth 100000 in
theorem qw1185 : (Cond.methodLink RX5 147 yX5_counted) ∈ LA := LA_t (LT5 (List.mem_of_getElem? (i := 225) rfl)) rfl
set_option maxRecDepth 100000 in
theorem qw1187 : (Cond.instanceMethod yX5_counted) ∈ LA := LA_t (LT5 (List.mem_of_getElem? (i := 227) rfl)) rfl
set_option maxRecDepth 100000 in
theorem qw1188 : (Cond.code yX5_counted cX5_counted 2 (some .int)) ∈ LA := LA_t (LT5 (List.mem_of_getElem? (i := 228) rfl)) rfl
set_option maxRecDepth 100000 in
theorem qw1189 : (Cond.methodLink RX5 144 yX5_flippable) ∈ LA := LA_t (LT5 (List.mem_of_getElem? (i := 229) rfl)) rfl
set_option maxRecDepth 100000 in
theorem qw1191 : (Cond.instanceMethod yX5_flippable) ∈ LA := LA_t (LT5 (List.mem_of_getElem? (i := 231) rfl)) rfl
set_option maxRecDepth 100000 in
theorem qw1192 : (Cond.code yX5_flippable cX5_flippable 4 (some .int)) ∈ LA := LA_t (LT5 (List.mem_of_getElem? (i := 232) rfl)) rfl
set_option maxRecDepth 100000 in
theorem qw1193 : (Cond.methodLink RL 155 yX5_whyNot) ∈ LA := LA_t (LT5 (List.mem_of_getElem? (i := 233) rfl)) rfl
set_option maxRecDepth 100000 in
theorem qw1194 : (Cond.instanceMethod yX5_whyNot) ∈ LA := LA_t (LT5 (List.mem_of_getElem? (i := 234) rfl)) rfl
set_option maxRecDepth 100000 in
theorem qw1195 : (Cond.selects RX5 yX5_whyNot yX5_whyNot) ∈ LA := LA_t (LT5 (List.mem_of_getElem? (i := 235) rfl)) rfl
set_option maxRecDepth 100000 in
theorem qw1196 : (Cond.code yX5_whyNot cX5_whyNot 4 (some .int)) ∈ LA := LA_t (LT5 (List.mem_of_getElem? (i := 236) rfl)) rfl
set_option maxRecDepth 100000 in
theorem qw1197 : (Cond.methodLink RL 159 yX5_ways) ∈ LA := LA_t (LT5 (List.mem_of_getElem? (i := 237) rfl)) rfl
set_option maxRecDepth 100000 in
theorem qw1198 : (Cond.instanceMethod yX5_ways) ∈ LA := LA_t (LT5 (List.mem_of_getElem? (i := 238) rfl)) rfl
set_option maxRecDepth 100000 in
theorem qw1199 : (Cond.selects RX5 yX5_ways yX5_ways) ∈ LA := LA_t (LT5 (List.mem_of_getElem? (i := 239) rfl)) rfl
set_option maxRecDepth 100000 in
theorem qw1200 : (Cond.code yX5_ways cX5_ways 1 (some .int)) ∈ LA := LA_t (LT6 (List.mem_of_getElem? (i := 0) rfl)) rfl
set_option maxRecDepth 100000 in
theorem qw1201 : (Cond.methodLink RL 162 yX5_waysWith) ∈ LA := LA_t (LT6 (List.mem_of_getElem? (i := 1) rfl)) rfl
set_option maxRecDepth 100000 in
theorem qw1202 : (Cond.instanceMethod yX5_waysWith) ∈ LA := LA_t (LT6 (List.mem_of_getElem? (i := 2) rfl)) rfl
set_option maxRecDepth 100000 in
theorem qw1203 : (Cond.selects RX5 yX5_waysWith yX5_waysWith) ∈ LA := LA_t (LT6 (List.mem_of_getElem? (i := 3) rfl)) rfl
set_option maxRecDepth 100000 in
theorem qw1204 : (Cond.code yX5_waysWith cX5_waysWith 4 (some .int)) ∈ LA := LA_t (LT6 (List.mem_of_getElem? (i := 4) rfl)) rfl
set_option maxRecDepth 100000 in
theorem qw1205 : (Cond.methodLink RX5 150 yX5_with) ∈ LA := LA_t (LT6 (List.mem_of_getElem? (i := 5) rfl)) rfl
set_option maxRecDepth 100000 in
theorem qw1207 : (Cond.instanceMethod yX5_with) ∈ LA := LA_t (LT6 (List.mem_of_getElem? (i := 7) rfl)) rfl
set_option maxRecDepth 100000 in
theorem qw1208 : (Cond.code yX5_with cX5_with 4 (some .int)) ∈ LA := LA_t (LT6 (List.mem_of_getElem? (i := 8) rfl)) rfl
set_option maxRecDepth 100000 in
theorem qw1209 : (Cond.methodLink RL 165 yX5_forced) ∈ LA := LA_t (LT6 (List.mem_of_getElem? (i := 9) rfl)) rfl
set_option maxRecDepth 100000 in
theorem qw1210 : (Cond.instanceMethod yX5_forced) ∈ LA := LA_t (LT6 (List.mem_of_getElem? (i := 10) rfl)) rfl
set_option maxRecDepth 100000 in
theorem qw1211 : (Cond.selects RX5 yX5_forced yX5_forced) ∈ LA := LA_t (LT6 (List.mem_of_getElem? (i := 11) rfl)) rfl
set_option maxRecDepth 100000 in
theorem qw1212 : (Cond.code yX5_forced cX5_forced 2 (some .int)) ∈ LA := LA_t (LT6 (List.mem_of_getElem? (i := 12) rfl)) rfl
set_option maxRecDepth 100000 in
theorem qw1213 : (Cond.methodLink RX5 159 yX5_isForced) ∈ LA := LA_t (LT6 (List.mem_of_getElem? (i := 13) rfl)) rfl
set_option maxRecDepth 100000 in
theorem qw1215 : (Cond.instanceMethod yX5_isForced) ∈ LA := LA_t (LT6 (List.mem_of_getElem? (i := 15) rfl)) rfl
set_option maxRecDepth 100000 in
theorem qw1216 : (Cond.code yX5_isForced cX5_isForced 3 (some .int)) ∈ LA := LA_t (LT6 (List.mem_of_getElem? (i := 16) rfl)) rfl
set_option maxRecDepth 100000 in
theorem qw1217 : (Cond.methodLink RX5 153 yX5_firstWith) ∈ LA := LA_t (LT6 (List.mem_of_getElem? (i := 17) rfl)) rfl
set_option maxRecDepth 100000 in
theorem qw1219 : (Cond.instanceMethod yX5_firstWith) ∈ LA := LA_t (LT6 (List.mem_of_getElem? (i := 19) rfl)) rfl
set_option maxRecDepth 100000 in
theorem qw1220 : (Cond.code yX5_firstWith cX5_firstWith 4 (some .int)) ∈ LA := LA_t (LT6 (List.mem_of_getElem? (i := 20) rfl)) rfl
set_option maxRecDepth 100000 in
theorem qw1221 : (Cond.methodLink RX5 156 yX5_told) ∈ LA := LA_t (LT6 (List.mem_of_getElem? (i := 21) rfl)) rfl
set_option maxRecDepth 100000 in
theorem qw1222 : (Cond.static yX5_told) ∈ LA := LA_t (LT6 (List.mem_of_getElem? (i := 22) rfl)) rfl
set_option maxRecDepth 100000 in
theorem qw1223 : (Cond.code yX5_told cX5_told 1 (some .int)) ∈ LA := LA_t (LT6 (List.mem_of_getElem? (i := 23) rfl)) rfl
set_option maxRecDepth 100000 in
theorem qw1224 : (Cond.methodLink RL 169 yX5_lonely) ∈ LA := LA_t (LT6 (List.mem_of_getElem? (i := 24) rfl)) rfl
set_option maxRecDepth 100000 in
theorem qw1225 : (Cond.instanceMethod yX5_lonely) ∈ LA := LA_t (LT6 (List.mem_of_getElem? (i := 25) rfl)) rfl
set_option maxRecDepth 100000 in
theorem qw1226 : (Cond.selects RX5 yX5_lonely yX5_lonely) ∈ LA := LA_t (LT6 (List.mem_of_getElem? (i := 26) rfl)) rfl
set_option maxRecDepth 100000 in
theorem qw1227 : (Cond.code yX5_lonely cX5_lonely 1 (some .int)) ∈ LA := LA_t (LT6 (List.mem_of_getElem? (i := 27) rfl)) rfl
set_option maxRecDepth 100000 in
theorem qw1228 : (Cond.methodLink RL 173 yX5_bestPond) ∈ LA := LA_t (LT6 (List.mem_of_getElem? (i := 28) rfl)) rfl
set_option maxRecDepth 100000 in
theorem qw1229 : (Cond.instanceMethod yX5_bestPond) ∈ LA := LA_t (LT6 (List.mem_of_getElem? (i := 29) rfl)) rfl
set_option maxRecDepth 100000 in
theorem qw1230 : (Cond.selects RX5 yX5_bestPond yX5_bestPond) ∈ LA := LA_t (LT6 (List.mem_of_getElem? (i := 30) rfl)) rfl
set_option maxRecDepth 100000 in
theorem qw1231 : (Cond.code yX5_bestPond cX5_bestPond 7 (some .int)) ∈ LA := LA_t (LT6 (List.mem_of_getElem? (i := 31) rfl)) rfl
set_option maxRecDepth 100000 in
theorem qw1232 : (Cond.methodLink RL 178 yX5_pavedShare) ∈ LA := LA_t (LT6 (List.mem_of_getElem? (i := 32) rfl)) rfl
set_option maxRecDepth 100000 in
theorem qw1233 : (Cond.instanceMethod yX5_pavedShare) ∈ LA := LA_t (LT6 (List.mem_of_getElem? (i := 33) rfl)) rfl
set_option maxRecDepth 100000 in
theorem qw1234 : (Cond.selects RX5 yX5_pavedShare yX5_pavedShare) ∈ LA := LA_t (LT6 (List.mem_of_getElem? (i := 34) rfl)) rfl
set_option maxRecDepth 100000 in
theorem qw1235 : (Cond.code yX5_pavedShare cX5_pavedShare 1 (some .double)) ∈ LA := LA_t (LT6 (List.mem_of_getElem? (i := 35) rfl)) rfl
set_option maxRecDepth 100000 in
theorem qw1236 : (Cond.methodLink RX5 162 yX5_share) ∈ LA := LA_t (LT6 (List.mem_of_getElem? (i := 36) rfl)) rfl
set_option maxRecDepth 100000 in
theorem qw1238 : (Cond.instanceMethod yX5_share) ∈ LA := LA_t (LT6 (List.mem_of_getElem? (i := 38) rfl)) rfl
set_option maxRecDepth 100000 in
theorem qw1239 : (Cond.code yX5_share cX5_share 3 (some .double)) ∈ LA := LA_t (LT6 (List.mem_of_getElem? (i := 39) rfl)) rfl
set_option maxRecDepth 100000 in
theorem qw1240 : (Cond.methodLink RL 183 yX5_digest) ∈ LA := LA_t (LT6 (List.mem_of_getElem? (i := 40) rfl)) rfl
set_option maxRecDepth 100000 in
theorem qw1241 : (Cond.instanceMethod yX5_digest) ∈ LA := LA_t (LT6 (List.mem_of_getElem? (i := 41) rfl)) rfl
set_option maxRecDepth 100000 in
theorem qw1242 : (Cond.selects RX5 yX5_digest yX5_digest) ∈ LA := LA_t (LT6 (List.mem_of_getElem? (i := 42) rfl)) rfl
set_option maxRecDepth 100000 in
theorem qw1243 : (Cond.code yX5_digest cX5_digest 5 (some .long)) ∈ LA := LA_t (LT6 (List.mem_of_getElem? (i := 43) rfl)) rfl
set_option maxRecDepth 100000 in
theorem qw1244 : (Cond.constantLong RX5 166 3181) ∈ LA := LA_t (LT6 (List.mem_of_getElem? (i := 44) rfl)) rfl
set_option maxRecDepth 100000 in
theorem qw1245 : (Cond.constantLong RX5 168 31) ∈ LA := LA_t (LT6 (List.mem_of_getElem? (i := 45) rfl)) rfl
set_option maxRecDepth 100000 in
theorem qw1246 : (Cond.methodLink RX5 170 yJxe99ae_doubleToLongBits_ccdee) ∈ LA := LA_t (LT6 (List.mem_of_getElem? (i := 46) rfl)) rfl
set_option maxRecDepth 100000 in
theorem qw1247 : (Cond.static yJxe99ae_doubleToLongBits_ccdee) ∈ LA := LA_t (LT6 (List.mem_of_getElem? (i := 47) rfl)) rfl
set_option maxRecDepth 100000 in
theorem qw1248 : (Cond.code yJxe99ae_doubleToLongBits_ccdee cJxe99ae_doubleToLongBits_ccdee 2 (some .long)) ∈ LA := LA_t (LT6 (List.mem_of_getElem? (i := 48) rfl)) rfl
set_option maxRecDepth 100000 in
theorem qw1249 : (Cond.methodLink RJxe99ae 122 yJxe99ae_isNaN_b9ae7) ∈ LA := LA_t (LT6 (List.mem_of_getElem? (i := 49) rfl)) rfl
set_option maxRecDepth 100000 in
theorem qw1250 : (Cond.static yJxe99ae_isNaN_b9ae7) ∈ LA := LA_t (LT6 (List.mem_of_getElem? (i := 50) rfl)) rfl
set_option maxRecDepth 100000 in
theorem qw1251 : (Cond.code yJxe99ae_isNaN_b9ae7 cJxe99ae_isNaN_b9ae7 2 (some .boolean)) ∈ LA := LA_t (LT6 (List.mem_of_getElem? (i := 51) rfl)) rfl
set_option maxRecDepth 100000 in
theorem qw1252 : (Cond.methodLink RJxe99ae 134 ⟨RJxe99ae, "doubleToRawLongBits", "(D)J"⟩) ∈ LA := LA_t (LT6 (List.mem_of_getElem? (i := 52) rfl)) rfl
set_option maxRecDepth 100000 in
theorem qw1253 : (Cond.static ⟨RJxe99ae, "doubleToRawLongBits", "(D)J"⟩) ∈ LA := LA_t (LT6 (List.mem_of_getElem? (i := 53) rfl)) rfl
set_option maxRecDepth 100000 in
theorem qw1254 : (Cond.native ⟨RJxe99ae, "doubleToRawLongBits", "(D)J"⟩) ∈ LA := LA_t (LT6 (List.mem_of_getElem? (i := 54) rfl)) rfl
set_option maxRecDepth 100000 in
theorem qw1255 : (Cond.constantLong RJxe99ae 137 9221120237041090560) ∈ LA := LA_t (LT6 (List.mem_of_getElem? (i := 55) rfl)) rfl
set_option maxRecDepth 100000 in
theorem qw1256 : (Cond.arrayClass .long) ∈ LA := LA_t (LT6 (List.mem_of_getElem? (i := 56) rfl)) rfl
set_option maxRecDepth 100000 in
theorem qw1257 : (Cond.sameMethod "java/lang/Throwable" "java/lang/Throwable" "fillInStackTrace" "(I)Ljava/lang/Throwable;") ∈ LA := LA_t (LT6 (List.mem_of_getElem? (i := 57) rfl)) rfl
set_option maxRecDepth 100000 in
theorem qw1258 : (Cond.castable RX1 "java/lang/Object") ∈ LN := LN_t (LT6 (List.mem_of_getElem? (i := 58) rfl)) rfl
set_option maxRecDepth 100000 in
theorem qw1259 : (Cond.castable RX4 "java/lang/Object") ∈ LN := LN_t (LT6 (List.mem_of_getElem? (i := 59) rfl)) rfl
set_option maxRecDepth 100000 in
theorem qw1260 : (Cond.castable RJx4a65c "java/lang/Object") ∈ LN := LN_t (LT6 (List.mem_of_getElem? (i := 60) rfl)) rfl
set_option maxRecDepth 100000 in
theorem qw1261 : (Cond.castable RX0 "java/lang/Object") ∈ LN := LN_t (LT6 (List.mem_of_getElem? (i := 61) rfl)) rfl
set_option maxRecDepth 100000 in
theorem qw1262 : (Cond.castable RX2 "java/lang/Object") ∈ LN := LN_t (LT6 (List.mem_of_getElem? (i := 62) rfl)) rfl
set_option maxRecDepth 100000 in
theorem qw1263 : (Cond.castable RX6 "java/lang/Object") ∈ LN := LN_t (LT6 (List.mem_of_getElem? (i := 63) rfl)) rfl
set_option maxRecDepth 100000 in
theorem qw1264 : (Cond.castable RX5 "java/lang/Object") ∈ LN := LN_t (LT6 (List.mem_of_getElem? (i := 64) rfl)) rfl
set_option maxRecDepth 100000 in
theorem qw1265 : (Cond.castable "java/lang/IllegalArgumentException" "java/lang/Object") ∈ LN := LN_t (LT6 (List.mem_of_getElem? (i := 65) rfl)) rfl
set_option maxRecDepth 100000 in
theorem qw1266 : (Cond.castable "java/lang/IndexOutOfBoundsException" "java/lang/Object") ∈ LN := LN_t (LT6 (List.mem_of_getElem? (i := 66) rfl)) rfl
set_option maxRecDepth 100000 in
theorem qw1267 : (Cond.castable "java/lang/IllegalStateException" "java/lang/Object") ∈ LN := LN_t (LT6 (List.mem_of_getElem? (i := 67) rfl)) rfl
set_option maxRecDepth 100000 in
theorem qw1268 : (Cond.castable RX3 "java/lang/Object") ∈ LN := LN_t (LT6 (List.mem_of_getElem? (i := 68) rfl)) rfl
set_option maxRecDepth 100000 in
theorem qw1269 : (Cond.castable "java/lang/Throwable" "java/lang/Object") ∈ LN := LN_t (LT6 (List.mem_of_getElem? (i := 69) rfl)) rfl
set_option maxRecDepth 100000 in
theorem qw1270 : (Cond.castable RJ0 "java/lang/Object") ∈ LN := LN_t (LT6 (List.mem_of_getElem? (i := 70) rfl)) rfl
set_option maxRecDepth 100000 in
theorem qw1271 : (Cond.sameMethod "[Ljava/lang/Object;" "java/lang/Object" "getClass" "()Ljava/lang/Class;") ∈ LA := LA_t (LT6 (List.mem_of_getElem? (i := 71) rfl)) rfl
set_option maxRecDepth 100000 in
theorem qw1272 : (Cond.selects "[Ljava/lang/Object;" ⟨"java/lang/Object", "getClass", "()Ljava/lang/Class;"⟩ ⟨"java/lang/Object", "getClass", "()Ljava/lang/Class;"⟩) ∈ LA := LA_t (LT6 (List.mem_of_getElem? (i := 72) rfl)) rfl
set_option maxRecDepth 100000 in
theorem qw1273 : (Cond.declares ⟨"java/lang/Object", "getClass", "()Ljava/lang/Class;"⟩) ∈ LN := LN_t (LT6 (List.mem_of_getElem? (i := 73) rfl)) rfl
set_option maxRecDepth 100000 in
theorem qw1274 : (Cond.castable "[LBentGardens$Garden;" "java/lang/Object") ∈ LN := LN_t (LT6 (List.mem_of_getElem? (i := 74) rfl)) rfl
set_option maxRecDepth 100000 in
theorem qw1275 : (Cond.castable "[I" "java/lang/Object") ∈ LN := LN_t (LT6 (List.mem_of_getElem? (i := 75) rfl)) rfl
set_option maxRecDepth 100000 in
theorem qw1276 : (Cond.castable "[[I" "java/lang/Object") ∈ LN := LN_t (LT6 (List.mem_of_getElem? (i := 76) rfl)) rfl
set_option maxRecDepth 100000 in
theorem qw1277 : (Cond.castable "[B" "java/lang/Object") ∈ LN := LN_t (LT6 (List.mem_of_getElem? (i := 77) rfl)) rfl
set_option maxRecDepth 100000 in
theorem qw1278 : (Cond.castable "[Ljava/lang/Object;" "java/lang/Object") ∈ LN := LN_t (LT6 (List.mem_of_getElem? (i := 78) rfl)) rfl
set_option maxRecDepth 100000 in
theorem qw1279 : (Cond.castable "[Z" "java/lang/Object") ∈ LN := LN_t (LT6 (List.mem_of_getElem? (i := 79) rfl)) rfl
set_option maxRecDepth 100000 in
theorem qw1280 : (Cond.castable "[C" "java/lang/Object") ∈ LN := LN_t (LT6 (List.mem_of_getElem? (i := 80) rfl)) rfl
set_option maxRecDepth 100000 in
theorem qw1281 : (Cond.castable "[J" "java/lang/Object") ∈ LN := LN_t (LT6 (List.mem_of_getElem? (i := 81) rfl)) rfl
theorem qs0 : (Cond.selects RX3 yX3_isRowWhole yX3_isRowWhole) ∈ LA := LA_sel (q := (yX3_isRowWhole, 5)) (List.mem_of_getElem? (i := 0) (by decide +kernel))
theorem qs1 : (Cond.selects RX3 yX3_isLastForPond yX3_isLastForPond) ∈ LA := LA_sel (q := (yX3_isLastForPond, 5)) (List.mem_of_getElem? (i := 1) (by decide +kernel))
theorem qs2 : (Cond.selects RX2 yX2_begin yX2_begin) ∈ LA := LA_sel (q := (yX2_begin, 4)) (List.mem_of_getElem? (i := 2) (by decide +kernel))
theorem qs3 : (Cond.selects RX2 yX2_goOn yX2_goOn) ∈ LA := LA_sel (q := (yX2_goOn, 4)) (List.mem_of_getElem? (i := 3) (by decide +kernel))
theorem qs4 : (Cond.selects RX2 yX2_findTakes yX2_findTakes) ∈ LA := LA_sel (q := (yX2_findTakes, 4)) (List.mem_of_getElem? (i := 4) (by decide +kernel))
theorem qs5 : (Cond.selects RX2 yX2_goOnByTurns yX2_goOnByTurns) ∈ LA := LA_sel (q := (yX2_goOnByTurns, 4)) (List.mem_of_getElem? (i := 5) (by decide +kernel))
theorem qs6 : (Cond.selects RX2 yX2_isOpen yX2_isOpen) ∈ LA := LA_sel (q := (yX2_isOpen, 4)) (List.mem_of_getElem? (i := 6) (by decide +kernel))
theorem qs7 : (Cond.selects RX2 yX2_windowAfter yX2_windowAfter) ∈ LA := LA_sel (q := (yX2_windowAfter, 4)) (List.mem_of_getElem? (i := 7) (by decide +kernel))
theorem qs8 : (Cond.selects RX1 yX1_couldCover yX1_couldCover) ∈ LA := LA_sel (q := (yX1_couldCover, 9)) (List.mem_of_getElem? (i := 8) (by decide +kernel))
theorem qs9 : (Cond.selects RX2 yX2_countRest yX2_countRest) ∈ LA := LA_sel (q := (yX2_countRest, 4)) (List.mem_of_getElem? (i := 9) (by decide +kernel))
theorem qs10 : (Cond.selects RX2 yX2_restOf yX2_restOf) ∈ LA := LA_sel (q := (yX2_restOf, 4)) (List.mem_of_getElem? (i := 10) (by decide +kernel))
theorem qs11 : (Cond.selects RX2 yX2_countPlace yX2_countPlace) ∈ LA := LA_sel (q := (yX2_countPlace, 4)) (List.mem_of_getElem? (i := 11) (by decide +kernel))
theorem qs12 : (Cond.selects RX2 yX2_countTurns yX2_countTurns) ∈ LA := LA_sel (q := (yX2_countTurns, 4)) (List.mem_of_getElem? (i := 12) (by decide +kernel))
theorem qs13 : (Cond.selects RX2 yX2_waysAround yX2_waysAround) ∈ LA := LA_sel (q := (yX2_waysAround, 4)) (List.mem_of_getElem? (i := 13) (by decide +kernel))
theorem qs14 : (Cond.selects RX2 yX2_restFrom yX2_restFrom) ∈ LA := LA_sel (q := (yX2_restFrom, 4)) (List.mem_of_getElem? (i := 14) (by decide +kernel))
theorem qs15 : (Cond.selects RX1 yX1_tripleCells yX1_tripleCells) ∈ LA := LA_sel (q := (yX1_tripleCells, 9)) (List.mem_of_getElem? (i := 15) (by decide +kernel))
theorem qs16 : (Cond.selects "java/lang/Throwable" ⟨"java/lang/Throwable", "fillInStackTrace", "(I)Ljava/lang/Throwable;"⟩ ⟨"java/lang/Throwable", "fillInStackTrace", "(I)Ljava/lang/Throwable;"⟩) ∈ LA := LA_sel (q := (⟨"java/lang/Throwable", "fillInStackTrace", "(I)Ljava/lang/Throwable;"⟩, 6)) (List.mem_of_getElem? (i := 16) (by decide +kernel))
theorem qs17 : (Cond.selects RX4 yX4_mixedRows yX4_mixedRows) ∈ LA := LA_sel (q := (yX4_mixedRows, 5)) (List.mem_of_getElem? (i := 17) (by decide +kernel))
theorem qs18 : (Cond.selects RX4 yX4_mixedCells yX4_mixedCells) ∈ LA := LA_sel (q := (yX4_mixedCells, 5)) (List.mem_of_getElem? (i := 18) (by decide +kernel))
theorem qs19 : (Cond.selects RX4 yX4_requireCell yX4_requireCell) ∈ LA := LA_sel (q := (yX4_requireCell, 5)) (List.mem_of_getElem? (i := 19) (by decide +kernel))
theorem qs20 : (Cond.selects RX4 yX4_mixedTriples yX4_mixedTriples) ∈ LA := LA_sel (q := (yX4_mixedTriples, 5)) (List.mem_of_getElem? (i := 20) (by decide +kernel))
theorem qs21 : (Cond.selects RX4 yX4_mixedSlots yX4_mixedSlots) ∈ LA := LA_sel (q := (yX4_mixedSlots, 5)) (List.mem_of_getElem? (i := 21) (by decide +kernel))
theorem qs22 : (Cond.selects RX4 yX4_mixedBuffer yX4_mixedBuffer) ∈ LA := LA_sel (q := (yX4_mixedBuffer, 5)) (List.mem_of_getElem? (i := 22) (by decide +kernel))
theorem qs23 : (Cond.selects RX4 yX4_saveState yX4_saveState) ∈ LA := LA_sel (q := (yX4_saveState, 5)) (List.mem_of_getElem? (i := 23) (by decide +kernel))
theorem qs24 : (Cond.selects RJx4a65c yJx4a65c_fastRemove_b59b0 yJx4a65c_fastRemove_b59b0) ∈ LA := LA_sel (q := (yJx4a65c_fastRemove_b59b0, 3)) (List.mem_of_getElem? (i := 24) (by decide +kernel))
theorem qs25 : (Cond.selects RJx4a65c yJx4a65c_add_72be8 yJx4a65c_add_72be8) ∈ LA := LA_sel (q := (yJx4a65c_add_72be8, 3)) (List.mem_of_getElem? (i := 25) (by decide +kernel))
theorem qs26 : (Cond.selects RJx4a65c yJx4a65c_grow_d5877 yJx4a65c_grow_d5877) ∈ LA := LA_sel (q := (yJx4a65c_grow_d5877, 3)) (List.mem_of_getElem? (i := 26) (by decide +kernel))
theorem qs27 : (Cond.selects RJx4a65c yJx4a65c_grow_92f84 yJx4a65c_grow_92f84) ∈ LA := LA_sel (q := (yJx4a65c_grow_92f84, 3)) (List.mem_of_getElem? (i := 27) (by decide +kernel))
theorem qs28 : (Cond.selects RX2 yX2_leastTurn yX2_leastTurn) ∈ LA := LA_sel (q := (yX2_leastTurn, 4)) (List.mem_of_getElem? (i := 28) (by decide +kernel))
theorem qs29 : (Cond.selects RX4 yX4_requireSlot yX4_requireSlot) ∈ LA := LA_sel (q := (yX4_requireSlot, 5)) (List.mem_of_getElem? (i := 29) (by decide +kernel))
theorem qs30 : (Cond.selects RX5 yX5_laysOut yX5_laysOut) ∈ LA := LA_sel (q := (yX5_laysOut, 10)) (List.mem_of_getElem? (i := 30) (by decide +kernel))
theorem qs31 : (Cond.selects RX5 yX5_goes yX5_goes) ∈ LA := LA_sel (q := (yX5_goes, 10)) (List.mem_of_getElem? (i := 31) (by decide +kernel))
theorem qs32 : (Cond.selects RX5 yX5_saves yX5_saves) ∈ LA := LA_sel (q := (yX5_saves, 10)) (List.mem_of_getElem? (i := 32) (by decide +kernel))
theorem qs33 : (Cond.selects RX5 yX5_copies yX5_copies) ∈ LA := LA_sel (q := (yX5_copies, 10)) (List.mem_of_getElem? (i := 33) (by decide +kernel))
theorem qs34 : (Cond.selects RX5 yX5_isIn yX5_isIn) ∈ LA := LA_sel (q := (yX5_isIn, 10)) (List.mem_of_getElem? (i := 34) (by decide +kernel))
theorem qs35 : (Cond.selects RX5 yX5_walls yX5_walls) ∈ LA := LA_sel (q := (yX5_walls, 10)) (List.mem_of_getElem? (i := 35) (by decide +kernel))
theorem qs36 : (Cond.selects RX5 yX5_wrong yX5_wrong) ∈ LA := LA_sel (q := (yX5_wrong, 10)) (List.mem_of_getElem? (i := 36) (by decide +kernel))
theorem qs37 : (Cond.selects RX5 yX5_lays yX5_lays) ∈ LA := LA_sel (q := (yX5_lays, 10)) (List.mem_of_getElem? (i := 37) (by decide +kernel))
theorem qs38 : (Cond.selects RX5 yX5_lifts yX5_lifts) ∈ LA := LA_sel (q := (yX5_lifts, 10)) (List.mem_of_getElem? (i := 38) (by decide +kernel))
theorem qs39 : (Cond.selects RX5 yX5_isBlock yX5_isBlock) ∈ LA := LA_sel (q := (yX5_isBlock, 10)) (List.mem_of_getElem? (i := 39) (by decide +kernel))
theorem qs40 : (Cond.selects RX5 yX5_turnOf yX5_turnOf) ∈ LA := LA_sel (q := (yX5_turnOf, 10)) (List.mem_of_getElem? (i := 40) (by decide +kernel))
theorem qs41 : (Cond.selects RX5 yX5_paves yX5_paves) ∈ LA := LA_sel (q := (yX5_paves, 10)) (List.mem_of_getElem? (i := 41) (by decide +kernel))
theorem qs42 : (Cond.selects RX5 yX5_clears yX5_clears) ∈ LA := LA_sel (q := (yX5_clears, 10)) (List.mem_of_getElem? (i := 42) (by decide +kernel))
theorem qs43 : (Cond.selects RX5 yX5_takes yX5_takes) ∈ LA := LA_sel (q := (yX5_takes, 10)) (List.mem_of_getElem? (i := 43) (by decide +kernel))
theorem qs44 : (Cond.selects RX5 yX5_isFree yX5_isFree) ∈ LA := LA_sel (q := (yX5_isFree, 10)) (List.mem_of_getElem? (i := 44) (by decide +kernel))
theorem qs45 : (Cond.selects RX5 yX5_covers yX5_covers) ∈ LA := LA_sel (q := (yX5_covers, 10)) (List.mem_of_getElem? (i := 45) (by decide +kernel))
theorem qs46 : (Cond.selects RX5 yX5_fills yX5_fills) ∈ LA := LA_sel (q := (yX5_fills, 10)) (List.mem_of_getElem? (i := 46) (by decide +kernel))
theorem qs47 : (Cond.selects RX5 yX5_areSquares yX5_areSquares) ∈ LA := LA_sel (q := (yX5_areSquares, 10)) (List.mem_of_getElem? (i := 47) (by decide +kernel))
theorem qs48 : (Cond.selects RX5 yX5_pushes yX5_pushes) ∈ LA := LA_sel (q := (yX5_pushes, 10)) (List.mem_of_getElem? (i := 48) (by decide +kernel))
theorem qs49 : (Cond.selects RX5 yX5_quarter yX5_quarter) ∈ LA := LA_sel (q := (yX5_quarter, 10)) (List.mem_of_getElem? (i := 49) (by decide +kernel))
theorem qs50 : (Cond.selects RX5 yX5_error yX5_error) ∈ LA := LA_sel (q := (yX5_error, 10)) (List.mem_of_getElem? (i := 50) (by decide +kernel))
theorem qs51 : (Cond.selects RX5 yX5_free yX5_free) ∈ LA := LA_sel (q := (yX5_free, 10)) (List.mem_of_getElem? (i := 51) (by decide +kernel))
theorem qs52 : (Cond.selects RX5 yX5_cells yX5_cells) ∈ LA := LA_sel (q := (yX5_cells, 10)) (List.mem_of_getElem? (i := 52) (by decide +kernel))
theorem qs53 : (Cond.selects RX5 yX5_could yX5_could) ∈ LA := LA_sel (q := (yX5_could, 10)) (List.mem_of_getElem? (i := 53) (by decide +kernel))
theorem qs54 : (Cond.selects RX5 yX5_mask yX5_mask) ∈ LA := LA_sel (q := (yX5_mask, 10)) (List.mem_of_getElem? (i := 54) (by decide +kernel))
theorem qs55 : (Cond.selects RX5 yX5_counted yX5_counted) ∈ LA := LA_sel (q := (yX5_counted, 10)) (List.mem_of_getElem? (i := 55) (by decide +kernel))
theorem qs56 : (Cond.selects RX5 yX5_flippable yX5_flippable) ∈ LA := LA_sel (q := (yX5_flippable, 10)) (List.mem_of_getElem? (i := 56) (by decide +kernel))
theorem qs57 : (Cond.selects RX5 yX5_with yX5_with) ∈ LA := LA_sel (q := (yX5_with, 10)) (List.mem_of_getElem? (i := 57) (by decide +kernel))
theorem qs58 : (Cond.selects RX5 yX5_isForced yX5_isForced) ∈ LA := LA_sel (q := (yX5_isForced, 10)) (List.mem_of_getElem? (i := 58) (by decide +kernel))
theorem qs59 : (Cond.selects RX5 yX5_firstWith yX5_firstWith) ∈ LA := LA_sel (q := (yX5_firstWith, 10)) (List.mem_of_getElem? (i := 59) (by decide +kernel))
theorem qs60 : (Cond.selects RX5 yX5_share yX5_share) ∈ LA := LA_sel (q := (yX5_share, 10)) (List.mem_of_getElem? (i := 60) (by decide +kernel))
