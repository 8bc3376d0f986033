def isNest : Cond → Bool
  | .methodLinkNest .. => true
  | .fieldLinkNest .. => true
  | .castable .. => true
  | .declares _ => true
  | _ => false
/-- the words that every method has: all good ones of the tables -/
def LA : List Cond := lw_tbl.filter goodWord
/-- the words of the tables that a state carries -/
def LN : List Cond := lw_tbl.filter isNest
theorem LA_of {w : Cond} (h : w ∈ lw_tbl) (g : goodWord w = true) : w ∈ LA := List.mem_filter.mpr ⟨h, g⟩
theorem LA_t {w : Cond} (h : w ∈ tables_1) (g : goodWord w = true) : w ∈ LA := LA_of (List.mem_append_right _ h) g
theorem LN_t {w : Cond} (h : w ∈ tables_1) (g : isNest w = true) : w ∈ LN := List.mem_filter.mpr ⟨List.mem_append_right _ h, g⟩
theorem LA_g : ∀ w ∈ LA, goodWord w = true := fun _ h => (List.mem_filter.mp h).2
theorem LA_tbl : ∀ w ∈ LA, w ∈ lw_tbl := fun _ h => (List.mem_filter.mp h).1
theorem LA_sel {q : MethodName × Nat} (h : q ∈ lw_privs) : Cond.selects q.1.cls q.1 q.1 ∈ LA := LA_of (List.mem_append_left _ (by unfold k2_sels; exact List.mem_map.mpr ⟨q, h, rfl⟩)) rfl

theorem LT1 {w : Cond} (h : w ∈ tables_1_1) : w ∈ tables_1 := List.mem_append_left _ h
theorem LT2 {w : Cond} (h : w ∈ tables_1_2) : w ∈ tables_1 := List.mem_append_right _ (List.mem_append_left _ h)
theorem LT3 {w : Cond} (h : w ∈ tables_1_3) : w ∈ tables_1 := List.mem_append_right _ (List.mem_append_right _ (List.mem_append_left _ h))
theorem LT4 {w : Cond} (h : w ∈ tables_1_4) : w ∈ tables_1 := List.mem_append_right _ (List.mem_append_right _ (List.mem_append_right _ (h)))
set_option maxRecDepth 100000 in
theorem qw0 : (Cond.initialized RL) ∈ LA := LA_t (LT1 (List.mem_of_getElem? (i := 0) rfl)) rfl
set_option maxRecDepth 100000 in
theorem qw1 : (Cond.initialized RX4) ∈ LA := LA_t (LT1 (List.mem_of_getElem? (i := 1) rfl)) rfl
set_option maxRecDepth 100000 in
theorem qw2 : (Cond.initialized RJxa1e45) ∈ LA := LA_t (LT1 (List.mem_of_getElem? (i := 2) rfl)) rfl
set_option maxRecDepth 100000 in
theorem qw3 : (Cond.initialized RJxc12de) ∈ LA := LA_t (LT1 (List.mem_of_getElem? (i := 3) rfl)) rfl
set_option maxRecDepth 100000 in
theorem qw4 : (Cond.initialized RJx4a65c) ∈ LA := LA_t (LT1 (List.mem_of_getElem? (i := 4) rfl)) rfl
set_option maxRecDepth 100000 in
theorem qw5 : (Cond.initialized RX0) ∈ LA := LA_t (LT1 (List.mem_of_getElem? (i := 5) rfl)) rfl
set_option maxRecDepth 100000 in
theorem qw6 : (Cond.initialized RX2) ∈ LA := LA_t (LT1 (List.mem_of_getElem? (i := 6) rfl)) rfl
set_option maxRecDepth 100000 in
theorem qw7 : (Cond.initialized RX6) ∈ LA := LA_t (LT1 (List.mem_of_getElem? (i := 7) rfl)) rfl
set_option maxRecDepth 100000 in
theorem qw8 : (Cond.initialized RX1) ∈ LA := LA_t (LT1 (List.mem_of_getElem? (i := 8) rfl)) rfl
set_option maxRecDepth 100000 in
theorem qw9 : (Cond.initialized "java/lang/Throwable") ∈ LA := LA_t (LT1 (List.mem_of_getElem? (i := 9) rfl)) rfl
set_option maxRecDepth 100000 in
theorem qw10 : (Cond.initialized "java/lang/Exception") ∈ LA := LA_t (LT1 (List.mem_of_getElem? (i := 10) rfl)) rfl
set_option maxRecDepth 100000 in
theorem qw11 : (Cond.initialized "java/lang/RuntimeException") ∈ LA := LA_t (LT1 (List.mem_of_getElem? (i := 11) rfl)) rfl
set_option maxRecDepth 100000 in
theorem qw12 : (Cond.initialized "java/lang/IllegalStateException") ∈ LA := LA_t (LT1 (List.mem_of_getElem? (i := 12) rfl)) rfl
set_option maxRecDepth 100000 in
theorem qw13 : (Cond.initialized RJ15) ∈ LA := LA_t (LT1 (List.mem_of_getElem? (i := 13) rfl)) rfl
set_option maxRecDepth 100000 in
theorem qw14 : (Cond.initialized RJ3) ∈ LA := LA_t (LT1 (List.mem_of_getElem? (i := 14) rfl)) rfl
set_option maxRecDepth 100000 in
theorem qw15 : (Cond.initialized RJ10) ∈ LA := LA_t (LT1 (List.mem_of_getElem? (i := 15) rfl)) rfl
set_option maxRecDepth 100000 in
theorem qw16 : (Cond.initialized "java/lang/IllegalArgumentException") ∈ LA := LA_t (LT1 (List.mem_of_getElem? (i := 16) rfl)) rfl
set_option maxRecDepth 100000 in
theorem qw17 : (Cond.initialized RJ8) ∈ LA := LA_t (LT1 (List.mem_of_getElem? (i := 17) rfl)) rfl
set_option maxRecDepth 100000 in
theorem qw18 : (Cond.initialized RJ9) ∈ LA := LA_t (LT1 (List.mem_of_getElem? (i := 18) rfl)) rfl
set_option maxRecDepth 100000 in
theorem qw19 : (Cond.initialized RJ7) ∈ LA := LA_t (LT1 (List.mem_of_getElem? (i := 19) rfl)) rfl
set_option maxRecDepth 100000 in
theorem qw20 : (Cond.initialized RX3) ∈ LA := LA_t (LT1 (List.mem_of_getElem? (i := 20) rfl)) rfl
set_option maxRecDepth 100000 in
theorem qw21 : (Cond.initialized RJxd2413) ∈ LA := LA_t (LT1 (List.mem_of_getElem? (i := 21) rfl)) rfl
set_option maxRecDepth 100000 in
theorem qw22 : (Cond.initialized RJ13) ∈ LA := LA_t (LT1 (List.mem_of_getElem? (i := 22) rfl)) rfl
set_option maxRecDepth 100000 in
theorem qw23 : (Cond.initialized RJ6) ∈ LA := LA_t (LT1 (List.mem_of_getElem? (i := 23) rfl)) rfl
set_option maxRecDepth 100000 in
theorem qw24 : (Cond.initialized "java/lang/IndexOutOfBoundsException") ∈ LA := LA_t (LT1 (List.mem_of_getElem? (i := 24) rfl)) rfl
set_option maxRecDepth 100000 in
theorem qw25 : (Cond.classLink RL 10 RX4) ∈ LA := LA_t (LT1 (List.mem_of_getElem? (i := 25) rfl)) rfl
set_option maxRecDepth 100000 in
theorem qw26 : (Cond.instantiable RX4 5) ∈ LA := LA_t (LT1 (List.mem_of_getElem? (i := 26) rfl)) rfl
set_option maxRecDepth 100000 in
theorem qw27 : (Cond.methodLink RL 135 yX4_init) ∈ LA := LA_t (LT1 (List.mem_of_getElem? (i := 27) rfl)) rfl
set_option maxRecDepth 100000 in
theorem qw28 : (Cond.instanceMethod yX4_init) ∈ LA := LA_t (LT1 (List.mem_of_getElem? (i := 28) rfl)) rfl
set_option maxRecDepth 100000 in
theorem qw29 : (Cond.code yX4_init cX4_init 1 none) ∈ LA := LA_t (LT1 (List.mem_of_getElem? (i := 29) rfl)) rfl
set_option maxRecDepth 100000 in
theorem qw30 : (Cond.methodLink RX4 3 objectInit) ∈ LA := LA_t (LT1 (List.mem_of_getElem? (i := 30) rfl)) rfl
set_option maxRecDepth 100000 in
theorem qw31 : (Cond.instanceMethod objectInit) ∈ LA := LA_t (LT1 (List.mem_of_getElem? (i := 31) rfl)) rfl
set_option maxRecDepth 100000 in
theorem qw32 : (Cond.code objectInit object_method_1_code 1 none) ∈ LA := LA_t (LT1 (List.mem_of_getElem? (i := 32) rfl)) rfl
set_option maxRecDepth 100000 in
theorem qw33 : (Cond.classLink RX4 9 RJx4a65c) ∈ LA := LA_t (LT1 (List.mem_of_getElem? (i := 33) rfl)) rfl
set_option maxRecDepth 100000 in
theorem qw34 : (Cond.instantiable RJx4a65c 3) ∈ LA := LA_t (LT1 (List.mem_of_getElem? (i := 34) rfl)) rfl
set_option maxRecDepth 100000 in
theorem qw35 : (Cond.methodLink RX4 11 yJx4a65c_init_da8c8) ∈ LA := LA_t (LT1 (List.mem_of_getElem? (i := 35) rfl)) rfl
set_option maxRecDepth 100000 in
theorem qw36 : (Cond.instanceMethod yJx4a65c_init_da8c8) ∈ LA := LA_t (LT1 (List.mem_of_getElem? (i := 36) rfl)) rfl
set_option maxRecDepth 100000 in
theorem qw37 : (Cond.code yJx4a65c_init_da8c8 cJx4a65c_init_da8c8 1 none) ∈ LA := LA_t (LT1 (List.mem_of_getElem? (i := 37) rfl)) rfl
set_option maxRecDepth 100000 in
theorem qw38 : (Cond.methodLink RJx4a65c 1 yJxc12de_init_da8c8) ∈ LA := LA_t (LT1 (List.mem_of_getElem? (i := 38) rfl)) rfl
set_option maxRecDepth 100000 in
theorem qw39 : (Cond.instanceMethod yJxc12de_init_da8c8) ∈ LA := LA_t (LT1 (List.mem_of_getElem? (i := 39) rfl)) rfl
set_option maxRecDepth 100000 in
theorem qw40 : (Cond.code yJxc12de_init_da8c8 cJxc12de_init_da8c8 1 none) ∈ LA := LA_t (LT1 (List.mem_of_getElem? (i := 40) rfl)) rfl
set_option maxRecDepth 100000 in
theorem qw41 : (Cond.methodLink RJxc12de 1 yJxa1e45_init_da8c8) ∈ LA := LA_t (LT1 (List.mem_of_getElem? (i := 41) rfl)) rfl
set_option maxRecDepth 100000 in
theorem qw42 : (Cond.instanceMethod yJxa1e45_init_da8c8) ∈ LA := LA_t (LT1 (List.mem_of_getElem? (i := 42) rfl)) rfl
set_option maxRecDepth 100000 in
theorem qw43 : (Cond.code yJxa1e45_init_da8c8 cJxa1e45_init_da8c8 1 none) ∈ LA := LA_t (LT1 (List.mem_of_getElem? (i := 43) rfl)) rfl
set_option maxRecDepth 100000 in
theorem qw44 : (Cond.methodLink RJxa1e45 1 objectInit) ∈ LA := LA_t (LT1 (List.mem_of_getElem? (i := 44) rfl)) rfl
set_option maxRecDepth 100000 in
theorem qw45 : (Cond.fieldLink RJx4a65c 39 "java/util/ArrayList" "DEFAULTCAPACITY_EMPTY_ELEMENTDATA" "[Ljava/lang/Object;") ∈ LA := LA_t (LT1 (List.mem_of_getElem? (i := 45) rfl)) rfl
set_option maxRecDepth 100000 in
theorem qw47 : (Cond.fieldLink RJx4a65c 9 "java/util/ArrayList" "elementData" "[Ljava/lang/Object;") ∈ LA := LA_t (LT1 (List.mem_of_getElem? (i := 47) rfl)) rfl
set_option maxRecDepth 100000 in
theorem qw48 : (Cond.fieldLink RJx4a65c 48 "java/util/ArrayList" "size" "I") ∈ LA := LA_t (LT1 (List.mem_of_getElem? (i := 48) rfl)) rfl
set_option maxRecDepth 100000 in
theorem qw49 : (Cond.fieldLink RJxc12de 7 "java/util/AbstractList" "modCount" "I") ∈ LA := LA_t (LT1 (List.mem_of_getElem? (i := 49) rfl)) rfl
set_option maxRecDepth 100000 in
theorem qw50 : (Cond.fieldLink RJx4a65c 63 "java/util/ArrayList" "modCount" "I") ∈ LA := LA_t (LT1 (List.mem_of_getElem? (i := 50) rfl)) rfl
set_option maxRecDepth 100000 in
theorem qw51 : (Cond.sameField RJx4a65c "java/util/AbstractList" "modCount" "I") ∈ LA := LA_t (LT1 (List.mem_of_getElem? (i := 51) rfl)) rfl
set_option maxRecDepth 100000 in
theorem qw52 : (Cond.lays RJx4a65c "java/util/ArrayList" "elementData" "[Ljava/lang/Object;") ∈ LA := LA_t (LT1 (List.mem_of_getElem? (i := 52) rfl)) rfl
set_option maxRecDepth 100000 in
theorem qw54 : (Cond.lays RJx4a65c "java/util/ArrayList" "size" "I") ∈ LA := LA_t (LT1 (List.mem_of_getElem? (i := 54) rfl)) rfl
set_option maxRecDepth 100000 in
theorem qw56 : (Cond.lays RJx4a65c "java/util/AbstractList" "modCount" "I") ∈ LA := LA_t (LT1 (List.mem_of_getElem? (i := 56) rfl)) rfl
set_option maxRecDepth 100000 in
theorem qw59 : (Cond.classLink RX4 16 RX1) ∈ LA := LA_t (LT1 (List.mem_of_getElem? (i := 59) rfl)) rfl
set_option maxRecDepth 100000 in
theorem qw61 : (Cond.classLink RX4 22 RX0) ∈ LA := LA_t (LT1 (List.mem_of_getElem? (i := 61) rfl)) rfl
set_option maxRecDepth 100000 in
theorem qw62 : (Cond.instantiable RX0 2) ∈ LA := LA_t (LT1 (List.mem_of_getElem? (i := 62) rfl)) rfl
set_option maxRecDepth 100000 in
theorem qw63 : (Cond.methodLinkNest RX4 24 yX0_init RX4) ∈ LN := LN_t (LT1 (List.mem_of_getElem? (i := 63) rfl)) rfl
set_option maxRecDepth 100000 in
theorem qw64 : (Cond.instanceMethod yX0_init) ∈ LA := LA_t (LT1 (List.mem_of_getElem? (i := 64) rfl)) rfl
set_option maxRecDepth 100000 in
theorem qw65 : (Cond.code yX0_init cX0_init 1 none) ∈ LA := LA_t (LT1 (List.mem_of_getElem? (i := 65) rfl)) rfl
set_option maxRecDepth 100000 in
theorem qw66 : (Cond.methodLink RX0 3 objectInit) ∈ LA := LA_t (LT1 (List.mem_of_getElem? (i := 66) rfl)) rfl
set_option maxRecDepth 100000 in
theorem qw67 : (Cond.fieldLink RX0 9 "BentGardens$Buffer" "length" "I") ∈ LA := LA_t (LT1 (List.mem_of_getElem? (i := 67) rfl)) rfl
set_option maxRecDepth 100000 in
theorem qw68 : (Cond.fieldLink RX4 181 "BentGardens$Buffer" "length" "I") ∈ LA := LA_t (LT1 (List.mem_of_getElem? (i := 68) rfl)) rfl
set_option maxRecDepth 100000 in
theorem qw69 : (Cond.fieldLink RX0 15 "BentGardens$Buffer" "codes" "[I") ∈ LA := LA_t (LT1 (List.mem_of_getElem? (i := 69) rfl)) rfl
set_option maxRecDepth 100000 in
theorem qw70 : (Cond.lays RX0 "BentGardens$Buffer" "length" "I") ∈ LA := LA_t (LT1 (List.mem_of_getElem? (i := 70) rfl)) rfl
set_option maxRecDepth 100000 in
theorem qw72 : (Cond.laysFinal RX0 "BentGardens$Buffer" "codes" "[I") ∈ LA := LA_t (LT1 (List.mem_of_getElem? (i := 72) rfl)) rfl
set_option maxRecDepth 100000 in
theorem qw75 : (Cond.arrayClass .int) ∈ LA := LA_t (LT1 (List.mem_of_getElem? (i := 75) rfl)) rfl
set_option maxRecDepth 100000 in
theorem qw76 : (Cond.classLink RX4 29 RX2) ∈ LA := LA_t (LT1 (List.mem_of_getElem? (i := 76) rfl)) rfl
set_option maxRecDepth 100000 in
theorem qw77 : (Cond.instantiable RX2 4) ∈ LA := LA_t (LT1 (List.mem_of_getElem? (i := 77) rfl)) rfl
set_option maxRecDepth 100000 in
theorem qw78 : (Cond.methodLinkNest RX4 31 yX2_init RX4) ∈ LN := LN_t (LT1 (List.mem_of_getElem? (i := 78) rfl)) rfl
set_option maxRecDepth 100000 in
theorem qw79 : (Cond.instanceMethod yX2_init) ∈ LA := LA_t (LT1 (List.mem_of_getElem? (i := 79) rfl)) rfl
set_option maxRecDepth 100000 in
theorem qw80 : (Cond.code yX2_init cX2_init 1 none) ∈ LA := LA_t (LT1 (List.mem_of_getElem? (i := 80) rfl)) rfl
set_option maxRecDepth 100000 in
theorem qw81 : (Cond.methodLink RX2 5 objectInit) ∈ LA := LA_t (LT1 (List.mem_of_getElem? (i := 81) rfl)) rfl
set_option maxRecDepth 100000 in
theorem qw82 : (Cond.classLink RX2 11 "[[I") ∈ LA := LA_t (LT1 (List.mem_of_getElem? (i := 82) rfl)) rfl
set_option maxRecDepth 100000 in
theorem qw84 : (Cond.classLink RX2 20 RX6) ∈ LA := LA_t (LT1 (List.mem_of_getElem? (i := 84) rfl)) rfl
set_option maxRecDepth 100000 in
theorem qw85 : (Cond.instantiable RX6 3) ∈ LA := LA_t (LT1 (List.mem_of_getElem? (i := 85) rfl)) rfl
set_option maxRecDepth 100000 in
theorem qw86 : (Cond.methodLinkNest RX2 22 yX6_init RX4) ∈ LN := LN_t (LT1 (List.mem_of_getElem? (i := 86) rfl)) rfl
set_option maxRecDepth 100000 in
theorem qw87 : (Cond.instanceMethod yX6_init) ∈ LA := LA_t (LT1 (List.mem_of_getElem? (i := 87) rfl)) rfl
set_option maxRecDepth 100000 in
theorem qw88 : (Cond.code yX6_init cX6_init 1 none) ∈ LA := LA_t (LT1 (List.mem_of_getElem? (i := 88) rfl)) rfl
set_option maxRecDepth 100000 in
theorem qw89 : (Cond.methodLink RX6 1 objectInit) ∈ LA := LA_t (LT1 (List.mem_of_getElem? (i := 89) rfl)) rfl
set_option maxRecDepth 100000 in
theorem qw90 : (Cond.fieldLink RX6 7 "BentGardens$Reached" "size" "I") ∈ LA := LA_t (LT1 (List.mem_of_getElem? (i := 90) rfl)) rfl
set_option maxRecDepth 100000 in
theorem qw91 : (Cond.fieldLink RX2 70 "BentGardens$Reached" "size" "I") ∈ LA := LA_t (LT1 (List.mem_of_getElem? (i := 91) rfl)) rfl
set_option maxRecDepth 100000 in
theorem qw92 : (Cond.fieldLink RX6 15 "BentGardens$Reached" "windows" "[I") ∈ LA := LA_t (LT1 (List.mem_of_getElem? (i := 92) rfl)) rfl
set_option maxRecDepth 100000 in
theorem qw93 : (Cond.fieldLink RX6 19 "BentGardens$Reached" "ways" "[I") ∈ LA := LA_t (LT1 (List.mem_of_getElem? (i := 93) rfl)) rfl
set_option maxRecDepth 100000 in
theorem qw94 : (Cond.lays RX6 "BentGardens$Reached" "size" "I") ∈ LA := LA_t (LT1 (List.mem_of_getElem? (i := 94) rfl)) rfl
set_option maxRecDepth 100000 in
theorem qw96 : (Cond.laysFinal RX6 "BentGardens$Reached" "windows" "[I") ∈ LA := LA_t (LT1 (List.mem_of_getElem? (i := 96) rfl)) rfl
set_option maxRecDepth 100000 in
theorem qw98 : (Cond.laysFinal RX6 "BentGardens$Reached" "ways" "[I") ∈ LA := LA_t (LT1 (List.mem_of_getElem? (i := 98) rfl)) rfl
set_option maxRecDepth 100000 in
theorem qw101 : (Cond.fieldLink RX2 13 "BentGardens$Paver" "rest" "[[I") ∈ LA := LA_t (LT1 (List.mem_of_getElem? (i := 101) rfl)) rfl
set_option maxRecDepth 100000 in
theorem qw102 : (Cond.fieldLink RX2 16 "BentGardens$Paver" "takes" "[I") ∈ LA := LA_t (LT1 (List.mem_of_getElem? (i := 102) rfl)) rfl
set_option maxRecDepth 100000 in
theorem qw103 : (Cond.fieldLink RX2 23 "BentGardens$Paver" "here" "LBentGardens$Reached;") ∈ LA := LA_t (LT1 (List.mem_of_getElem? (i := 103) rfl)) rfl
set_option maxRecDepth 100000 in
theorem qw104 : (Cond.fieldLink RX2 27 "BentGardens$Paver" "next" "LBentGardens$Reached;") ∈ LA := LA_t (LT1 (List.mem_of_getElem? (i := 104) rfl)) rfl
set_option maxRecDepth 100000 in
theorem qw105 : (Cond.laysFinal RX2 "BentGardens$Paver" "rest" "[[I") ∈ LA := LA_t (LT1 (List.mem_of_getElem? (i := 105) rfl)) rfl
set_option maxRecDepth 100000 in
theorem qw107 : (Cond.laysFinal RX2 "BentGardens$Paver" "takes" "[I") ∈ LA := LA_t (LT1 (List.mem_of_getElem? (i := 107) rfl)) rfl
set_option maxRecDepth 100000 in
theorem qw109 : (Cond.lays RX2 "BentGardens$Paver" "here" "LBentGardens$Reached;") ∈ LA := LA_t (LT1 (List.mem_of_getElem? (i := 109) rfl)) rfl
set_option maxRecDepth 100000 in
theorem qw111 : (Cond.lays RX2 "BentGardens$Paver" "next" "LBentGardens$Reached;") ∈ LA := LA_t (LT1 (List.mem_of_getElem? (i := 111) rfl)) rfl
set_option maxRecDepth 100000 in
theorem qw114 : (Cond.instantiable RX1 9) ∈ LA := LA_t (LT1 (List.mem_of_getElem? (i := 114) rfl)) rfl
set_option maxRecDepth 100000 in
theorem qw115 : (Cond.methodLinkNest RX4 36 yX1_init RX4) ∈ LN := LN_t (LT1 (List.mem_of_getElem? (i := 115) rfl)) rfl
set_option maxRecDepth 100000 in
theorem qw116 : (Cond.instanceMethod yX1_init) ∈ LA := LA_t (LT1 (List.mem_of_getElem? (i := 116) rfl)) rfl
set_option maxRecDepth 100000 in
theorem qw117 : (Cond.code yX1_init cX1_init 1 none) ∈ LA := LA_t (LT1 (List.mem_of_getElem? (i := 117) rfl)) rfl
set_option maxRecDepth 100000 in
theorem qw118 : (Cond.methodLink RX1 3 objectInit) ∈ LA := LA_t (LT1 (List.mem_of_getElem? (i := 118) rfl)) rfl
set_option maxRecDepth 100000 in
theorem qw119 : (Cond.fieldLink RX1 9 "BentGardens$Garden" "wide" "I") ∈ LA := LA_t (LT1 (List.mem_of_getElem? (i := 119) rfl)) rfl
set_option maxRecDepth 100000 in
theorem qw120 : (Cond.fieldLink RX4 258 "BentGardens$Garden" "wide" "I") ∈ LA := LA_t (LT1 (List.mem_of_getElem? (i := 120) rfl)) rfl
set_option maxRecDepth 100000 in
theorem qw121 : (Cond.fieldLink RX1 15 "BentGardens$Garden" "high" "I") ∈ LA := LA_t (LT1 (List.mem_of_getElem? (i := 121) rfl)) rfl
set_option maxRecDepth 100000 in
theorem qw122 : (Cond.fieldLink RX4 249 "BentGardens$Garden" "high" "I") ∈ LA := LA_t (LT1 (List.mem_of_getElem? (i := 122) rfl)) rfl
set_option maxRecDepth 100000 in
theorem qw123 : (Cond.fieldLink RX1 18 "BentGardens$Garden" "pondPlace" "I") ∈ LA := LA_t (LT1 (List.mem_of_getElem? (i := 123) rfl)) rfl
set_option maxRecDepth 100000 in
theorem qw124 : (Cond.fieldLink RX4 79 "BentGardens$Garden" "pondPlace" "I") ∈ LA := LA_t (LT1 (List.mem_of_getElem? (i := 124) rfl)) rfl
set_option maxRecDepth 100000 in
theorem qw125 : (Cond.fieldLink RX1 21 "BentGardens$Garden" "walls" "J") ∈ LA := LA_t (LT1 (List.mem_of_getElem? (i := 125) rfl)) rfl
set_option maxRecDepth 100000 in
theorem qw126 : (Cond.fieldLink RX4 67 "BentGardens$Garden" "walls" "J") ∈ LA := LA_t (LT1 (List.mem_of_getElem? (i := 126) rfl)) rfl
set_option maxRecDepth 100000 in
theorem qw127 : (Cond.fieldLink RX1 25 "BentGardens$Garden" "paved" "J") ∈ LA := LA_t (LT1 (List.mem_of_getElem? (i := 127) rfl)) rfl
set_option maxRecDepth 100000 in
theorem qw128 : (Cond.fieldLink RX4 71 "BentGardens$Garden" "paved" "J") ∈ LA := LA_t (LT1 (List.mem_of_getElem? (i := 128) rfl)) rfl
set_option maxRecDepth 100000 in
theorem qw129 : (Cond.fieldLink RX1 28 "BentGardens$Garden" "tripleCount" "I") ∈ LA := LA_t (LT1 (List.mem_of_getElem? (i := 129) rfl)) rfl
set_option maxRecDepth 100000 in
theorem qw130 : (Cond.fieldLink RX4 155 "BentGardens$Garden" "tripleCount" "I") ∈ LA := LA_t (LT1 (List.mem_of_getElem? (i := 130) rfl)) rfl
set_option maxRecDepth 100000 in
theorem qw131 : (Cond.fieldLink RX1 31 "BentGardens$Garden" "flips" "I") ∈ LA := LA_t (LT1 (List.mem_of_getElem? (i := 131) rfl)) rfl
set_option maxRecDepth 100000 in
theorem qw132 : (Cond.fieldLink RX4 144 "BentGardens$Garden" "flips" "I") ∈ LA := LA_t (LT1 (List.mem_of_getElem? (i := 132) rfl)) rfl
set_option maxRecDepth 100000 in
theorem qw133 : (Cond.fieldLink RX1 34 "BentGardens$Garden" "refused" "I") ∈ LA := LA_t (LT1 (List.mem_of_getElem? (i := 133) rfl)) rfl
set_option maxRecDepth 100000 in
theorem qw134 : (Cond.fieldLink RX4 115 "BentGardens$Garden" "refused" "I") ∈ LA := LA_t (LT1 (List.mem_of_getElem? (i := 134) rfl)) rfl
set_option maxRecDepth 100000 in
theorem qw135 : (Cond.fieldLink RX1 37 "BentGardens$Garden" "names" "[I") ∈ LA := LA_t (LT1 (List.mem_of_getElem? (i := 135) rfl)) rfl
set_option maxRecDepth 100000 in
theorem qw136 : (Cond.lays RX1 "BentGardens$Garden" "wide" "I") ∈ LA := LA_t (LT1 (List.mem_of_getElem? (i := 136) rfl)) rfl
set_option maxRecDepth 100000 in
theorem qw138 : (Cond.lays RX1 "BentGardens$Garden" "high" "I") ∈ LA := LA_t (LT1 (List.mem_of_getElem? (i := 138) rfl)) rfl
set_option maxRecDepth 100000 in
theorem qw140 : (Cond.lays RX1 "BentGardens$Garden" "pondPlace" "I") ∈ LA := LA_t (LT1 (List.mem_of_getElem? (i := 140) rfl)) rfl
set_option maxRecDepth 100000 in
theorem qw142 : (Cond.lays RX1 "BentGardens$Garden" "walls" "J") ∈ LA := LA_t (LT1 (List.mem_of_getElem? (i := 142) rfl)) rfl
set_option maxRecDepth 100000 in
theorem qw144 : (Cond.lays RX1 "BentGardens$Garden" "paved" "J") ∈ LA := LA_t (LT1 (List.mem_of_getElem? (i := 144) rfl)) rfl
set_option maxRecDepth 100000 in
theorem qw146 : (Cond.lays RX1 "BentGardens$Garden" "tripleCount" "I") ∈ LA := LA_t (LT1 (List.mem_of_getElem? (i := 146) rfl)) rfl
set_option maxRecDepth 100000 in
theorem qw148 : (Cond.lays RX1 "BentGardens$Garden" "flips" "I") ∈ LA := LA_t (LT1 (List.mem_of_getElem? (i := 148) rfl)) rfl
set_option maxRecDepth 100000 in
theorem qw150 : (Cond.lays RX1 "BentGardens$Garden" "refused" "I") ∈ LA := LA_t (LT1 (List.mem_of_getElem? (i := 150) rfl)) rfl
set_option maxRecDepth 100000 in
theorem qw152 : (Cond.laysFinal RX1 "BentGardens$Garden" "names" "[I") ∈ LA := LA_t (LT1 (List.mem_of_getElem? (i := 152) rfl)) rfl
set_option maxRecDepth 100000 in
theorem qw155 : (Cond.fieldLink RX4 12 "BentGardens" "saved" "Ljava/util/ArrayList;") ∈ LA := LA_t (LT1 (List.mem_of_getElem? (i := 155) rfl)) rfl
set_option maxRecDepth 100000 in
theorem qw156 : (Cond.fieldLink RX4 18 "BentGardens" "slots" "[LBentGardens$Garden;") ∈ LA := LA_t (LT1 (List.mem_of_getElem? (i := 156) rfl)) rfl
set_option maxRecDepth 100000 in
theorem qw157 : (Cond.fieldLink RX4 25 "BentGardens" "buffer" "LBentGardens$Buffer;") ∈ LA := LA_t (LT1 (List.mem_of_getElem? (i := 157) rfl)) rfl
set_option maxRecDepth 100000 in
theorem qw158 : (Cond.fieldLink RX4 32 "BentGardens" "paver" "LBentGardens$Paver;") ∈ LA := LA_t (LT1 (List.mem_of_getElem? (i := 158) rfl)) rfl
set_option maxRecDepth 100000 in
theorem qw159 : (Cond.fieldLink RX4 37 "BentGardens" "now" "LBentGardens$Garden;") ∈ LA := LA_t (LT1 (List.mem_of_getElem? (i := 159) rfl)) rfl
set_option maxRecDepth 100000 in
theorem qw160 : (Cond.laysFinal RX4 "BentGardens" "saved" "Ljava/util/ArrayList;") ∈ LA := LA_t (LT1 (List.mem_of_getElem? (i := 160) rfl)) rfl
set_option maxRecDepth 100000 in
theorem qw162 : (Cond.laysFinal RX4 "BentGardens" "slots" "[LBentGardens$Garden;") ∈ LA := LA_t (LT1 (List.mem_of_getElem? (i := 162) rfl)) rfl
set_option maxRecDepth 100000 in
theorem qw164 : (Cond.laysFinal RX4 "BentGardens" "buffer" "LBentGardens$Buffer;") ∈ LA := LA_t (LT1 (List.mem_of_getElem? (i := 164) rfl)) rfl
set_option maxRecDepth 100000 in
theorem qw166 : (Cond.laysFinal RX4 "BentGardens" "paver" "LBentGardens$Paver;") ∈ LA := LA_t (LT1 (List.mem_of_getElem? (i := 166) rfl)) rfl
set_option maxRecDepth 100000 in
theorem qw168 : (Cond.lays RX4 "BentGardens" "now" "LBentGardens$Garden;") ∈ LA := LA_t (LT1 (List.mem_of_getElem? (i := 168) rfl)) rfl
set_option maxRecDepth 100000 in
theorem qw171 : (Cond.methodLink RL 140 yX4_firstError) ∈ LA := LA_t (LT1 (List.mem_of_getElem? (i := 171) rfl)) rfl
set_option maxRecDepth 100000 in
theorem qw172 : (Cond.instanceMethod yX4_firstError) ∈ LA := LA_t (LT1 (List.mem_of_getElem? (i := 172) rfl)) rfl
set_option maxRecDepth 100000 in
theorem qw173 : (Cond.selects RX4 yX4_firstError yX4_firstError) ∈ LA := LA_t (LT1 (List.mem_of_getElem? (i := 173) rfl)) rfl
set_option maxRecDepth 100000 in
theorem qw174 : (Cond.code yX4_firstError cX4_firstError 1 (some .int)) ∈ LA := LA_t (LT1 (List.mem_of_getElem? (i := 174) rfl)) rfl
set_option maxRecDepth 100000 in
theorem qw175 : (Cond.classLink RX4 184 RX3) ∈ LA := LA_t (LT1 (List.mem_of_getElem? (i := 175) rfl)) rfl
set_option maxRecDepth 100000 in
theorem qw176 : (Cond.instantiable RX3 5) ∈ LA := LA_t (LT1 (List.mem_of_getElem? (i := 176) rfl)) rfl
set_option maxRecDepth 100000 in
theorem qw177 : (Cond.methodLinkNest RX4 186 yX3_init RX4) ∈ LN := LN_t (LT1 (List.mem_of_getElem? (i := 177) rfl)) rfl
set_option maxRecDepth 100000 in
theorem qw178 : (Cond.instanceMethod yX3_init) ∈ LA := LA_t (LT1 (List.mem_of_getElem? (i := 178) rfl)) rfl
set_option maxRecDepth 100000 in
theorem qw179 : (Cond.code yX3_init cX3_init 1 none) ∈ LA := LA_t (LT1 (List.mem_of_getElem? (i := 179) rfl)) rfl
set_option maxRecDepth 100000 in
theorem qw180 : (Cond.methodLink RX3 3 objectInit) ∈ LA := LA_t (LT1 (List.mem_of_getElem? (i := 180) rfl)) rfl
set_option maxRecDepth 100000 in
theorem qw181 : (Cond.fieldLink RX3 9 "BentGardens$Reader" "wide" "I") ∈ LA := LA_t (LT1 (List.mem_of_getElem? (i := 181) rfl)) rfl
set_option maxRecDepth 100000 in
theorem qw182 : (Cond.fieldLink RX4 196 "BentGardens$Reader" "wide" "I") ∈ LA := LA_t (LT1 (List.mem_of_getElem? (i := 182) rfl)) rfl
set_option maxRecDepth 100000 in
theorem qw183 : (Cond.fieldLink RX3 15 "BentGardens$Reader" "row" "I") ∈ LA := LA_t (LT1 (List.mem_of_getElem? (i := 183) rfl)) rfl
set_option maxRecDepth 100000 in
theorem qw184 : (Cond.fieldLink RX4 199 "BentGardens$Reader" "row" "I") ∈ LA := LA_t (LT1 (List.mem_of_getElem? (i := 184) rfl)) rfl
set_option maxRecDepth 100000 in
theorem qw185 : (Cond.fieldLink RX3 18 "BentGardens$Reader" "pondPlace" "I") ∈ LA := LA_t (LT1 (List.mem_of_getElem? (i := 185) rfl)) rfl
set_option maxRecDepth 100000 in
theorem qw186 : (Cond.fieldLink RX4 202 "BentGardens$Reader" "pondPlace" "I") ∈ LA := LA_t (LT1 (List.mem_of_getElem? (i := 186) rfl)) rfl
set_option maxRecDepth 100000 in
theorem qw187 : (Cond.fieldLink RX3 21 "BentGardens$Reader" "walls" "J") ∈ LA := LA_t (LT1 (List.mem_of_getElem? (i := 187) rfl)) rfl
set_option maxRecDepth 100000 in
theorem qw188 : (Cond.fieldLink RX4 203 "BentGardens$Reader" "walls" "J") ∈ LA := LA_t (LT1 (List.mem_of_getElem? (i := 188) rfl)) rfl
set_option maxRecDepth 100000 in
theorem qw189 : (Cond.fieldLink RX3 25 "BentGardens$Reader" "column" "I") ∈ LA := LA_t (LT1 (List.mem_of_getElem? (i := 189) rfl)) rfl
set_option maxRecDepth 100000 in
theorem qw190 : (Cond.lays RX3 "BentGardens$Reader" "wide" "I") ∈ LA := LA_t (LT1 (List.mem_of_getElem? (i := 190) rfl)) rfl
set_option maxRecDepth 100000 in
theorem qw192 : (Cond.lays RX3 "BentGardens$Reader" "row" "I") ∈ LA := LA_t (LT1 (List.mem_of_getElem? (i := 192) rfl)) rfl
set_option maxRecDepth 100000 in
theorem qw194 : (Cond.lays RX3 "BentGardens$Reader" "pondPlace" "I") ∈ LA := LA_t (LT1 (List.mem_of_getElem? (i := 194) rfl)) rfl
set_option maxRecDepth 100000 in
theorem qw196 : (Cond.lays RX3 "BentGardens$Reader" "walls" "J") ∈ LA := LA_t (LT1 (List.mem_of_getElem? (i := 196) rfl)) rfl
set_option maxRecDepth 100000 in
theorem qw198 : (Cond.lays RX3 "BentGardens$Reader" "column" "I") ∈ LA := LA_t (LT1 (List.mem_of_getElem? (i := 198) rfl)) rfl
set_option maxRecDepth 100000 in
theorem qw201 : (Cond.methodLink RX4 187 yX0_readInto) ∈ LA := LA_t (LT1 (List.mem_of_getElem? (i := 201) rfl)) rfl
set_option maxRecDepth 100000 in
theorem qw202 : (Cond.instanceMethod yX0_readInto) ∈ LA := LA_t (LT1 (List.mem_of_getElem? (i := 202) rfl)) rfl
set_option maxRecDepth 100000 in
theorem qw203 : (Cond.selects RX0 yX0_readInto yX0_readInto) ∈ LA := LA_t (LT1 (List.mem_of_getElem? (i := 203) rfl)) rfl
set_option maxRecDepth 100000 in
theorem qw204 : (Cond.code yX0_readInto cX0_readInto 3 (some .int)) ∈ LA := LA_t (LT1 (List.mem_of_getElem? (i := 204) rfl)) rfl
set_option maxRecDepth 100000 in
theorem qw205 : (Cond.methodLink RX0 19 yX0_codeAt) ∈ LA := LA_t (LT1 (List.mem_of_getElem? (i := 205) rfl)) rfl
set_option maxRecDepth 100000 in
theorem qw206 : (Cond.instanceMethod yX0_codeAt) ∈ LA := LA_t (LT1 (List.mem_of_getElem? (i := 206) rfl)) rfl
set_option maxRecDepth 100000 in
theorem qw207 : (Cond.selects RX0 yX0_codeAt yX0_codeAt) ∈ LA := LA_t (LT1 (List.mem_of_getElem? (i := 207) rfl)) rfl
set_option maxRecDepth 100000 in
theorem qw208 : (Cond.code yX0_codeAt cX0_codeAt 2 (some .int)) ∈ LA := LA_t (LT1 (List.mem_of_getElem? (i := 208) rfl)) rfl
set_option maxRecDepth 100000 in
theorem qw209 : (Cond.methodLink RX0 23 yX3_isNext) ∈ LA := LA_t (LT1 (List.mem_of_getElem? (i := 209) rfl)) rfl
set_option maxRecDepth 100000 in
theorem qw210 : (Cond.instanceMethod yX3_isNext) ∈ LA := LA_t (LT1 (List.mem_of_getElem? (i := 210) rfl)) rfl
set_option maxRecDepth 100000 in
theorem qw211 : (Cond.selects RX3 yX3_isNext yX3_isNext) ∈ LA := LA_t (LT1 (List.mem_of_getElem? (i := 211) rfl)) rfl
set_option maxRecDepth 100000 in
theorem qw212 : (Cond.code yX3_isNext cX3_isNext 2 (some .boolean)) ∈ LA := LA_t (LT1 (List.mem_of_getElem? (i := 212) rfl)) rfl
set_option maxRecDepth 100000 in
theorem qw213 : (Cond.methodLink RX3 28 yX3_isRowWhole) ∈ LA := LA_t (LT1 (List.mem_of_getElem? (i := 213) rfl)) rfl
set_option maxRecDepth 100000 in
theorem qw215 : (Cond.instanceMethod yX3_isRowWhole) ∈ LA := LA_t (LT1 (List.mem_of_getElem? (i := 215) rfl)) rfl
set_option maxRecDepth 100000 in
theorem qw216 : (Cond.code yX3_isRowWhole cX3_isRowWhole 1 (some .boolean)) ∈ LA := LA_t (LT1 (List.mem_of_getElem? (i := 216) rfl)) rfl
set_option maxRecDepth 100000 in
theorem qw217 : (Cond.methodLink RX3 32 yX3_isLastForPond) ∈ LA := LA_t (LT1 (List.mem_of_getElem? (i := 217) rfl)) rfl
set_option maxRecDepth 100000 in
theorem qw219 : (Cond.instanceMethod yX3_isLastForPond) ∈ LA := LA_t (LT1 (List.mem_of_getElem? (i := 219) rfl)) rfl
set_option maxRecDepth 100000 in
theorem qw220 : (Cond.code yX3_isLastForPond cX3_isLastForPond 1 (some .boolean)) ∈ LA := LA_t (LT1 (List.mem_of_getElem? (i := 220) rfl)) rfl
set_option maxRecDepth 100000 in
theorem qw221 : (Cond.methodLink RX0 29 yX3_take) ∈ LA := LA_t (LT1 (List.mem_of_getElem? (i := 221) rfl)) rfl
set_option maxRecDepth 100000 in
theorem qw222 : (Cond.instanceMethod yX3_take) ∈ LA := LA_t (LT1 (List.mem_of_getElem? (i := 222) rfl)) rfl
set_option maxRecDepth 100000 in
theorem qw223 : (Cond.selects RX3 yX3_take yX3_take) ∈ LA := LA_t (LT1 (List.mem_of_getElem? (i := 223) rfl)) rfl
set_option maxRecDepth 100000 in
theorem qw224 : (Cond.code yX3_take cX3_take 2 none) ∈ LA := LA_t (LT1 (List.mem_of_getElem? (i := 224) rfl)) rfl
set_option maxRecDepth 100000 in
theorem qw225 : (Cond.methodLinkNest RX3 35 yX4_placeOf RX4) ∈ LN := LN_t (LT1 (List.mem_of_getElem? (i := 225) rfl)) rfl
set_option maxRecDepth 100000 in
theorem qw226 : (Cond.static yX4_placeOf) ∈ LA := LA_t (LT1 (List.mem_of_getElem? (i := 226) rfl)) rfl
set_option maxRecDepth 100000 in
theorem qw227 : (Cond.code yX4_placeOf cX4_placeOf 2 (some .int)) ∈ LA := LA_t (LT1 (List.mem_of_getElem? (i := 227) rfl)) rfl
set_option maxRecDepth 100000 in
theorem qw228 : (Cond.methodLinkNest RX3 39 yX4_cellAt RX4) ∈ LN := LN_t (LT1 (List.mem_of_getElem? (i := 228) rfl)) rfl
set_option maxRecDepth 100000 in
theorem qw229 : (Cond.static yX4_cellAt) ∈ LA := LA_t (LT1 (List.mem_of_getElem? (i := 229) rfl)) rfl
set_option maxRecDepth 100000 in
theorem qw230 : (Cond.code yX4_cellAt cX4_cellAt 2 (some .long)) ∈ LA := LA_t (LT1 (List.mem_of_getElem? (i := 230) rfl)) rfl
set_option maxRecDepth 100000 in
theorem qw231 : (Cond.methodLink RX4 83 yX4_placeOf) ∈ LA := LA_t (LT1 (List.mem_of_getElem? (i := 231) rfl)) rfl
set_option maxRecDepth 100000 in
theorem qw232 : (Cond.methodLink RL 130 yX4_ways) ∈ LA := LA_t (LT1 (List.mem_of_getElem? (i := 232) rfl)) rfl
set_option maxRecDepth 100000 in
theorem qw233 : (Cond.instanceMethod yX4_ways) ∈ LA := LA_t (LT1 (List.mem_of_getElem? (i := 233) rfl)) rfl
set_option maxRecDepth 100000 in
theorem qw234 : (Cond.selects RX4 yX4_ways yX4_ways) ∈ LA := LA_t (LT1 (List.mem_of_getElem? (i := 234) rfl)) rfl
set_option maxRecDepth 100000 in
theorem qw235 : (Cond.code yX4_ways cX4_ways 1 (some .int)) ∈ LA := LA_t (LT1 (List.mem_of_getElem? (i := 235) rfl)) rfl
set_option maxRecDepth 100000 in
theorem qw236 : (Cond.methodLink RX4 147 yX1_freeCells) ∈ LA := LA_t (LT1 (List.mem_of_getElem? (i := 236) rfl)) rfl
set_option maxRecDepth 100000 in
theorem qw237 : (Cond.instanceMethod yX1_freeCells) ∈ LA := LA_t (LT1 (List.mem_of_getElem? (i := 237) rfl)) rfl
set_option maxRecDepth 100000 in
theorem qw238 : (Cond.selects RX1 yX1_freeCells yX1_freeCells) ∈ LA := LA_t (LT1 (List.mem_of_getElem? (i := 238) rfl)) rfl
set_option maxRecDepth 100000 in
theorem qw239 : (Cond.code yX1_freeCells cX1_freeCells 1 (some .long)) ∈ LA := LA_t (LT1 (List.mem_of_getElem? (i := 239) rfl)) rfl
set_option maxRecDepth 100000 in
theorem qw240 : (Cond.methodLink RX1 48 yX1_blockCells) ∈ LA := LA_t (LT2 (List.mem_of_getElem? (i := 0) rfl)) rfl
set_option maxRecDepth 100000 in
theorem qw241 : (Cond.static yX1_blockCells) ∈ LA := LA_t (LT2 (List.mem_of_getElem? (i := 1) rfl)) rfl
set_option maxRecDepth 100000 in
theorem qw242 : (Cond.code yX1_blockCells cX1_blockCells 7 (some .long)) ∈ LA := LA_t (LT2 (List.mem_of_getElem? (i := 2) rfl)) rfl
set_option maxRecDepth 100000 in
theorem qw243 : (Cond.methodLinkNest RX1 58 yX4_placeOf RX4) ∈ LN := LN_t (LT2 (List.mem_of_getElem? (i := 3) rfl)) rfl
set_option maxRecDepth 100000 in
theorem qw244 : (Cond.methodLink RX1 52 yX1_pondCell) ∈ LA := LA_t (LT2 (List.mem_of_getElem? (i := 4) rfl)) rfl
set_option maxRecDepth 100000 in
theorem qw245 : (Cond.instanceMethod yX1_pondCell) ∈ LA := LA_t (LT2 (List.mem_of_getElem? (i := 5) rfl)) rfl
set_option maxRecDepth 100000 in
theorem qw246 : (Cond.selects RX1 yX1_pondCell yX1_pondCell) ∈ LA := LA_t (LT2 (List.mem_of_getElem? (i := 6) rfl)) rfl
set_option maxRecDepth 100000 in
theorem qw247 : (Cond.code yX1_pondCell cX1_pondCell 1 (some .long)) ∈ LA := LA_t (LT2 (List.mem_of_getElem? (i := 7) rfl)) rfl
set_option maxRecDepth 100000 in
theorem qw248 : (Cond.constantLong RX1 56 (-1)) ∈ LA := LA_t (LT2 (List.mem_of_getElem? (i := 8) rfl)) rfl
set_option maxRecDepth 100000 in
theorem qw249 : (Cond.methodLink RX4 150 yX2_waysToPave) ∈ LA := LA_t (LT2 (List.mem_of_getElem? (i := 9) rfl)) rfl
set_option maxRecDepth 100000 in
theorem qw250 : (Cond.instanceMethod yX2_waysToPave) ∈ LA := LA_t (LT2 (List.mem_of_getElem? (i := 10) rfl)) rfl
set_option maxRecDepth 100000 in
theorem qw251 : (Cond.selects RX2 yX2_waysToPave yX2_waysToPave) ∈ LA := LA_t (LT2 (List.mem_of_getElem? (i := 11) rfl)) rfl
set_option maxRecDepth 100000 in
theorem qw252 : (Cond.code yX2_waysToPave cX2_waysToPave 5 (some .int)) ∈ LA := LA_t (LT2 (List.mem_of_getElem? (i := 12) rfl)) rfl
set_option maxRecDepth 100000 in
theorem qw253 : (Cond.methodLink RX2 30 yJ13_bitCount_95d88) ∈ LA := LA_t (LT2 (List.mem_of_getElem? (i := 13) rfl)) rfl
set_option maxRecDepth 100000 in
theorem qw254 : (Cond.static yJ13_bitCount_95d88) ∈ LA := LA_t (LT2 (List.mem_of_getElem? (i := 14) rfl)) rfl
set_option maxRecDepth 100000 in
theorem qw255 : (Cond.code yJ13_bitCount_95d88 cJ13_bitCount_95d88 2 (some .int)) ∈ LA := LA_t (LT2 (List.mem_of_getElem? (i := 15) rfl)) rfl
set_option maxRecDepth 100000 in
theorem qw256 : (Cond.constantLong RJ13 314 6148914691236517205) ∈ LA := LA_t (LT2 (List.mem_of_getElem? (i := 16) rfl)) rfl
set_option maxRecDepth 100000 in
theorem qw257 : (Cond.constantLong RJ13 316 3689348814741910323) ∈ LA := LA_t (LT2 (List.mem_of_getElem? (i := 17) rfl)) rfl
set_option maxRecDepth 100000 in
theorem qw258 : (Cond.constantLong RJ13 318 1085102592571150095) ∈ LA := LA_t (LT2 (List.mem_of_getElem? (i := 18) rfl)) rfl
set_option maxRecDepth 100000 in
theorem qw259 : (Cond.methodLink RX2 36 yX2_begin) ∈ LA := LA_t (LT2 (List.mem_of_getElem? (i := 19) rfl)) rfl
set_option maxRecDepth 100000 in
theorem qw261 : (Cond.instanceMethod yX2_begin) ∈ LA := LA_t (LT2 (List.mem_of_getElem? (i := 21) rfl)) rfl
set_option maxRecDepth 100000 in
theorem qw262 : (Cond.code yX2_begin cX2_begin 1 none) ∈ LA := LA_t (LT2 (List.mem_of_getElem? (i := 22) rfl)) rfl
set_option maxRecDepth 100000 in
theorem qw263 : (Cond.methodLink RX2 56 yX6_clear) ∈ LA := LA_t (LT2 (List.mem_of_getElem? (i := 23) rfl)) rfl
set_option maxRecDepth 100000 in
theorem qw264 : (Cond.instanceMethod yX6_clear) ∈ LA := LA_t (LT2 (List.mem_of_getElem? (i := 24) rfl)) rfl
set_option maxRecDepth 100000 in
theorem qw265 : (Cond.selects RX6 yX6_clear yX6_clear) ∈ LA := LA_t (LT2 (List.mem_of_getElem? (i := 25) rfl)) rfl
set_option maxRecDepth 100000 in
theorem qw266 : (Cond.code yX6_clear cX6_clear 2 none) ∈ LA := LA_t (LT2 (List.mem_of_getElem? (i := 26) rfl)) rfl
set_option maxRecDepth 100000 in
theorem qw267 : (Cond.methodLink RX6 22 yX6_windowAt) ∈ LA := LA_t (LT2 (List.mem_of_getElem? (i := 27) rfl)) rfl
set_option maxRecDepth 100000 in
theorem qw268 : (Cond.instanceMethod yX6_windowAt) ∈ LA := LA_t (LT2 (List.mem_of_getElem? (i := 28) rfl)) rfl
set_option maxRecDepth 100000 in
theorem qw269 : (Cond.selects RX6 yX6_windowAt yX6_windowAt) ∈ LA := LA_t (LT2 (List.mem_of_getElem? (i := 29) rfl)) rfl
set_option maxRecDepth 100000 in
theorem qw270 : (Cond.code yX6_windowAt cX6_windowAt 2 (some .int)) ∈ LA := LA_t (LT2 (List.mem_of_getElem? (i := 30) rfl)) rfl
set_option maxRecDepth 100000 in
theorem qw271 : (Cond.methodLink RX2 59 yX6_add) ∈ LA := LA_t (LT2 (List.mem_of_getElem? (i := 31) rfl)) rfl
set_option maxRecDepth 100000 in
theorem qw272 : (Cond.instanceMethod yX6_add) ∈ LA := LA_t (LT2 (List.mem_of_getElem? (i := 32) rfl)) rfl
set_option maxRecDepth 100000 in
theorem qw273 : (Cond.selects RX6 yX6_add yX6_add) ∈ LA := LA_t (LT2 (List.mem_of_getElem? (i := 33) rfl)) rfl
set_option maxRecDepth 100000 in
theorem qw274 : (Cond.code yX6_add cX6_add 3 none) ∈ LA := LA_t (LT2 (List.mem_of_getElem? (i := 34) rfl)) rfl
set_option maxRecDepth 100000 in
theorem qw275 : (Cond.methodLink RX2 39 yX2_endOf) ∈ LA := LA_t (LT2 (List.mem_of_getElem? (i := 35) rfl)) rfl
set_option maxRecDepth 100000 in
theorem qw276 : (Cond.static yX2_endOf) ∈ LA := LA_t (LT2 (List.mem_of_getElem? (i := 36) rfl)) rfl
set_option maxRecDepth 100000 in
theorem qw277 : (Cond.code yX2_endOf cX2_endOf 2 (some .int)) ∈ LA := LA_t (LT2 (List.mem_of_getElem? (i := 37) rfl)) rfl
set_option maxRecDepth 100000 in
theorem qw278 : (Cond.methodLink RX2 53 yJ13_numberOfLeadingZeros_95d88) ∈ LA := LA_t (LT2 (List.mem_of_getElem? (i := 38) rfl)) rfl
set_option maxRecDepth 100000 in
theorem qw279 : (Cond.static yJ13_numberOfLeadingZeros_95d88) ∈ LA := LA_t (LT2 (List.mem_of_getElem? (i := 39) rfl)) rfl
set_option maxRecDepth 100000 in
theorem qw280 : (Cond.code yJ13_numberOfLeadingZeros_95d88 cJ13_numberOfLeadingZeros_95d88 3 (some .int)) ∈ LA := LA_t (LT2 (List.mem_of_getElem? (i := 40) rfl)) rfl
set_option maxRecDepth 100000 in
theorem qw281 : (Cond.methodLink RJ13 308 yJ6_numberOfLeadingZeros_0f7a4) ∈ LA := LA_t (LT2 (List.mem_of_getElem? (i := 41) rfl)) rfl
set_option maxRecDepth 100000 in
theorem qw282 : (Cond.static yJ6_numberOfLeadingZeros_0f7a4) ∈ LA := LA_t (LT2 (List.mem_of_getElem? (i := 42) rfl)) rfl
set_option maxRecDepth 100000 in
theorem qw283 : (Cond.code yJ6_numberOfLeadingZeros_0f7a4 cJ6_numberOfLeadingZeros_0f7a4 2 (some .int)) ∈ LA := LA_t (LT2 (List.mem_of_getElem? (i := 43) rfl)) rfl
set_option maxRecDepth 100000 in
theorem qw284 : (Cond.constant RJ6 264 65536) ∈ LA := LA_t (LT2 (List.mem_of_getElem? (i := 44) rfl)) rfl
set_option maxRecDepth 100000 in
theorem qw285 : (Cond.methodLink RX2 42 yJ13_numberOfTrailingZeros_95d88) ∈ LA := LA_t (LT2 (List.mem_of_getElem? (i := 45) rfl)) rfl
set_option maxRecDepth 100000 in
theorem qw286 : (Cond.static yJ13_numberOfTrailingZeros_95d88) ∈ LA := LA_t (LT2 (List.mem_of_getElem? (i := 46) rfl)) rfl
set_option maxRecDepth 100000 in
theorem qw287 : (Cond.code yJ13_numberOfTrailingZeros_95d88 cJ13_numberOfTrailingZeros_95d88 3 (some .int)) ∈ LA := LA_t (LT2 (List.mem_of_getElem? (i := 47) rfl)) rfl
set_option maxRecDepth 100000 in
theorem qw288 : (Cond.methodLink RJ13 311 yJ6_numberOfTrailingZeros_0f7a4) ∈ LA := LA_t (LT2 (List.mem_of_getElem? (i := 48) rfl)) rfl
set_option maxRecDepth 100000 in
theorem qw289 : (Cond.static yJ6_numberOfTrailingZeros_0f7a4) ∈ LA := LA_t (LT2 (List.mem_of_getElem? (i := 49) rfl)) rfl
set_option maxRecDepth 100000 in
theorem qw290 : (Cond.code yJ6_numberOfTrailingZeros_0f7a4 cJ6_numberOfTrailingZeros_0f7a4 2 (some .int)) ∈ LA := LA_t (LT2 (List.mem_of_getElem? (i := 50) rfl)) rfl
set_option maxRecDepth 100000 in
theorem qw291 : (Cond.methodLink RX2 45 yX2_goOn) ∈ LA := LA_t (LT2 (List.mem_of_getElem? (i := 51) rfl)) rfl
set_option maxRecDepth 100000 in
theorem qw293 : (Cond.instanceMethod yX2_goOn) ∈ LA := LA_t (LT2 (List.mem_of_getElem? (i := 53) rfl)) rfl
set_option maxRecDepth 100000 in
theorem qw294 : (Cond.code yX2_goOn cX2_goOn 7 none) ∈ LA := LA_t (LT2 (List.mem_of_getElem? (i := 54) rfl)) rfl
set_option maxRecDepth 100000 in
theorem qw295 : (Cond.methodLinkNest RX2 63 yX4_holds RX4) ∈ LN := LN_t (LT2 (List.mem_of_getElem? (i := 55) rfl)) rfl
set_option maxRecDepth 100000 in
theorem qw296 : (Cond.static yX4_holds) ∈ LA := LA_t (LT2 (List.mem_of_getElem? (i := 56) rfl)) rfl
set_option maxRecDepth 100000 in
theorem qw297 : (Cond.code yX4_holds cX4_holds 3 (some .boolean)) ∈ LA := LA_t (LT2 (List.mem_of_getElem? (i := 57) rfl)) rfl
set_option maxRecDepth 100000 in
theorem qw298 : (Cond.methodLink RX2 67 yX2_findTakes) ∈ LA := LA_t (LT2 (List.mem_of_getElem? (i := 58) rfl)) rfl
set_option maxRecDepth 100000 in
theorem qw300 : (Cond.instanceMethod yX2_findTakes) ∈ LA := LA_t (LT2 (List.mem_of_getElem? (i := 60) rfl)) rfl
set_option maxRecDepth 100000 in
theorem qw301 : (Cond.code yX2_findTakes cX2_findTakes 8 none) ∈ LA := LA_t (LT2 (List.mem_of_getElem? (i := 61) rfl)) rfl
set_option maxRecDepth 100000 in
theorem qw302 : (Cond.methodLink RX2 89 yX2_blockColumn) ∈ LA := LA_t (LT2 (List.mem_of_getElem? (i := 62) rfl)) rfl
set_option maxRecDepth 100000 in
theorem qw303 : (Cond.static yX2_blockColumn) ∈ LA := LA_t (LT2 (List.mem_of_getElem? (i := 63) rfl)) rfl
set_option maxRecDepth 100000 in
theorem qw304 : (Cond.code yX2_blockColumn cX2_blockColumn 2 (some .int)) ∈ LA := LA_t (LT2 (List.mem_of_getElem? (i := 64) rfl)) rfl
set_option maxRecDepth 100000 in
theorem qw305 : (Cond.methodLinkNest RX2 92 yX4_cellsOf RX4) ∈ LN := LN_t (LT2 (List.mem_of_getElem? (i := 65) rfl)) rfl
set_option maxRecDepth 100000 in
theorem qw306 : (Cond.static yX4_cellsOf) ∈ LA := LA_t (LT2 (List.mem_of_getElem? (i := 66) rfl)) rfl
set_option maxRecDepth 100000 in
theorem qw307 : (Cond.code yX4_cellsOf cX4_cellsOf 4 (some .long)) ∈ LA := LA_t (LT2 (List.mem_of_getElem? (i := 67) rfl)) rfl
set_option maxRecDepth 100000 in
theorem qw308 : (Cond.fieldLink RX4 365 "BentGardens" "SHAPES" "[J") ∈ LA := LA_t (LT2 (List.mem_of_getElem? (i := 68) rfl)) rfl
set_option maxRecDepth 100000 in
theorem qw310 : (Cond.constantLong RX2 96 (-1)) ∈ LA := LA_t (LT2 (List.mem_of_getElem? (i := 70) rfl)) rfl
set_option maxRecDepth 100000 in
theorem qw311 : (Cond.methodLink RX2 74 yX6_windowAt) ∈ LA := LA_t (LT2 (List.mem_of_getElem? (i := 71) rfl)) rfl
set_option maxRecDepth 100000 in
theorem qw312 : (Cond.methodLink RX2 77 yX2_goOnByTurns) ∈ LA := LA_t (LT2 (List.mem_of_getElem? (i := 72) rfl)) rfl
set_option maxRecDepth 100000 in
theorem qw314 : (Cond.instanceMethod yX2_goOnByTurns) ∈ LA := LA_t (LT2 (List.mem_of_getElem? (i := 74) rfl)) rfl
set_option maxRecDepth 100000 in
theorem qw315 : (Cond.code yX2_goOnByTurns cX2_goOnByTurns 3 none) ∈ LA := LA_t (LT2 (List.mem_of_getElem? (i := 75) rfl)) rfl
set_option maxRecDepth 100000 in
theorem qw316 : (Cond.methodLink RX2 81 yX2_isOpen) ∈ LA := LA_t (LT2 (List.mem_of_getElem? (i := 76) rfl)) rfl
set_option maxRecDepth 100000 in
theorem qw318 : (Cond.instanceMethod yX2_isOpen) ∈ LA := LA_t (LT2 (List.mem_of_getElem? (i := 78) rfl)) rfl
set_option maxRecDepth 100000 in
theorem qw319 : (Cond.code yX2_isOpen cX2_isOpen 3 (some .boolean)) ∈ LA := LA_t (LT2 (List.mem_of_getElem? (i := 79) rfl)) rfl
set_option maxRecDepth 100000 in
theorem qw320 : (Cond.methodLink RX2 85 yX2_windowAfter) ∈ LA := LA_t (LT2 (List.mem_of_getElem? (i := 80) rfl)) rfl
set_option maxRecDepth 100000 in
theorem qw322 : (Cond.instanceMethod yX2_windowAfter) ∈ LA := LA_t (LT2 (List.mem_of_getElem? (i := 82) rfl)) rfl
set_option maxRecDepth 100000 in
theorem qw323 : (Cond.code yX2_windowAfter cX2_windowAfter 3 (some .int)) ∈ LA := LA_t (LT2 (List.mem_of_getElem? (i := 83) rfl)) rfl
set_option maxRecDepth 100000 in
theorem qw324 : (Cond.methodLink RX2 49 yX6_waysTo) ∈ LA := LA_t (LT2 (List.mem_of_getElem? (i := 84) rfl)) rfl
set_option maxRecDepth 100000 in
theorem qw325 : (Cond.instanceMethod yX6_waysTo) ∈ LA := LA_t (LT2 (List.mem_of_getElem? (i := 85) rfl)) rfl
set_option maxRecDepth 100000 in
theorem qw326 : (Cond.selects RX6 yX6_waysTo yX6_waysTo) ∈ LA := LA_t (LT2 (List.mem_of_getElem? (i := 86) rfl)) rfl
set_option maxRecDepth 100000 in
theorem qw327 : (Cond.code yX6_waysTo cX6_waysTo 2 (some .int)) ∈ LA := LA_t (LT2 (List.mem_of_getElem? (i := 87) rfl)) rfl
set_option maxRecDepth 100000 in
theorem qw328 : (Cond.methodLink RL 157 yX4_bestPond) ∈ LA := LA_t (LT2 (List.mem_of_getElem? (i := 88) rfl)) rfl
set_option maxRecDepth 100000 in
theorem qw329 : (Cond.instanceMethod yX4_bestPond) ∈ LA := LA_t (LT2 (List.mem_of_getElem? (i := 89) rfl)) rfl
set_option maxRecDepth 100000 in
theorem qw330 : (Cond.selects RX4 yX4_bestPond yX4_bestPond) ∈ LA := LA_t (LT2 (List.mem_of_getElem? (i := 90) rfl)) rfl
set_option maxRecDepth 100000 in
theorem qw331 : (Cond.code yX4_bestPond cX4_bestPond 2 (some .int)) ∈ LA := LA_t (LT2 (List.mem_of_getElem? (i := 91) rfl)) rfl
set_option maxRecDepth 100000 in
theorem qw332 : (Cond.methodLink RX4 91 yX1_pondCell) ∈ LA := LA_t (LT2 (List.mem_of_getElem? (i := 92) rfl)) rfl
set_option maxRecDepth 100000 in
theorem qw333 : (Cond.methodLink RX4 281 yX2_bestGap) ∈ LA := LA_t (LT2 (List.mem_of_getElem? (i := 93) rfl)) rfl
set_option maxRecDepth 100000 in
theorem qw334 : (Cond.instanceMethod yX2_bestGap) ∈ LA := LA_t (LT2 (List.mem_of_getElem? (i := 94) rfl)) rfl
set_option maxRecDepth 100000 in
theorem qw335 : (Cond.selects RX2 yX2_bestGap yX2_bestGap) ∈ LA := LA_t (LT2 (List.mem_of_getElem? (i := 95) rfl)) rfl
set_option maxRecDepth 100000 in
theorem qw336 : (Cond.code yX2_bestGap cX2_bestGap 8 (some .int)) ∈ LA := LA_t (LT2 (List.mem_of_getElem? (i := 96) rfl)) rfl
set_option maxRecDepth 100000 in
theorem qw337 : (Cond.methodLink RX2 130 yX2_countRest) ∈ LA := LA_t (LT2 (List.mem_of_getElem? (i := 97) rfl)) rfl
set_option maxRecDepth 100000 in
theorem qw339 : (Cond.instanceMethod yX2_countRest) ∈ LA := LA_t (LT2 (List.mem_of_getElem? (i := 99) rfl)) rfl
set_option maxRecDepth 100000 in
theorem qw340 : (Cond.code yX2_countRest cX2_countRest 6 none) ∈ LA := LA_t (LT2 (List.mem_of_getElem? (i := 100) rfl)) rfl
set_option maxRecDepth 100000 in
theorem qw341 : (Cond.methodLink RX2 98 yX2_restOf) ∈ LA := LA_t (LT2 (List.mem_of_getElem? (i := 101) rfl)) rfl
set_option maxRecDepth 100000 in
theorem qw343 : (Cond.instanceMethod yX2_restOf) ∈ LA := LA_t (LT2 (List.mem_of_getElem? (i := 103) rfl)) rfl
set_option maxRecDepth 100000 in
theorem qw344 : (Cond.code yX2_restOf cX2_restOf 2 (some (.array .int))) ∈ LA := LA_t (LT2 (List.mem_of_getElem? (i := 104) rfl)) rfl
set_option maxRecDepth 100000 in
theorem qw345 : (Cond.methodLink RX2 112 yJ9_min_7cf53) ∈ LA := LA_t (LT2 (List.mem_of_getElem? (i := 105) rfl)) rfl
set_option maxRecDepth 100000 in
theorem qw346 : (Cond.static yJ9_min_7cf53) ∈ LA := LA_t (LT2 (List.mem_of_getElem? (i := 106) rfl)) rfl
set_option maxRecDepth 100000 in
theorem qw347 : (Cond.code yJ9_min_7cf53 cJ9_min_7cf53 2 (some .int)) ∈ LA := LA_t (LT2 (List.mem_of_getElem? (i := 107) rfl)) rfl
set_option maxRecDepth 100000 in
theorem qw348 : (Cond.methodLink RX2 117 yJ9_max_7cf53) ∈ LA := LA_t (LT2 (List.mem_of_getElem? (i := 108) rfl)) rfl
set_option maxRecDepth 100000 in
theorem qw349 : (Cond.static yJ9_max_7cf53) ∈ LA := LA_t (LT2 (List.mem_of_getElem? (i := 109) rfl)) rfl
set_option maxRecDepth 100000 in
theorem qw350 : (Cond.code yJ9_max_7cf53 cJ9_max_7cf53 2 (some .int)) ∈ LA := LA_t (LT2 (List.mem_of_getElem? (i := 110) rfl)) rfl
set_option maxRecDepth 100000 in
theorem qw351 : (Cond.methodLink RX2 102 yJ7_fill_53178) ∈ LA := LA_t (LT2 (List.mem_of_getElem? (i := 111) rfl)) rfl
set_option maxRecDepth 100000 in
theorem qw352 : (Cond.static yJ7_fill_53178) ∈ LA := LA_t (LT2 (List.mem_of_getElem? (i := 112) rfl)) rfl
set_option maxRecDepth 100000 in
theorem qw353 : (Cond.code yJ7_fill_53178 cJ7_fill_53178 4 none) ∈ LA := LA_t (LT2 (List.mem_of_getElem? (i := 113) rfl)) rfl
set_option maxRecDepth 100000 in
theorem qw354 : (Cond.methodLink RX2 108 yX2_countPlace) ∈ LA := LA_t (LT2 (List.mem_of_getElem? (i := 114) rfl)) rfl
set_option maxRecDepth 100000 in
theorem qw356 : (Cond.instanceMethod yX2_countPlace) ∈ LA := LA_t (LT2 (List.mem_of_getElem? (i := 116) rfl)) rfl
set_option maxRecDepth 100000 in
theorem qw357 : (Cond.code yX2_countPlace cX2_countPlace 5 none) ∈ LA := LA_t (LT2 (List.mem_of_getElem? (i := 117) rfl)) rfl
set_option maxRecDepth 100000 in
theorem qw358 : (Cond.methodLink RX2 120 yX2_countTurns) ∈ LA := LA_t (LT2 (List.mem_of_getElem? (i := 118) rfl)) rfl
set_option maxRecDepth 100000 in
theorem qw360 : (Cond.instanceMethod yX2_countTurns) ∈ LA := LA_t (LT2 (List.mem_of_getElem? (i := 120) rfl)) rfl
set_option maxRecDepth 100000 in
theorem qw361 : (Cond.code yX2_countTurns cX2_countTurns 5 (some .int)) ∈ LA := LA_t (LT2 (List.mem_of_getElem? (i := 121) rfl)) rfl
set_option maxRecDepth 100000 in
theorem qw362 : (Cond.methodLink RX2 144 yX2_waysAround) ∈ LA := LA_t (LT2 (List.mem_of_getElem? (i := 122) rfl)) rfl
set_option maxRecDepth 100000 in
theorem qw364 : (Cond.instanceMethod yX2_waysAround) ∈ LA := LA_t (LT2 (List.mem_of_getElem? (i := 124) rfl)) rfl
set_option maxRecDepth 100000 in
theorem qw365 : (Cond.code yX2_waysAround cX2_waysAround 5 (some .int)) ∈ LA := LA_t (LT2 (List.mem_of_getElem? (i := 125) rfl)) rfl
set_option maxRecDepth 100000 in
theorem qw366 : (Cond.methodLink RX2 141 yX2_restFrom) ∈ LA := LA_t (LT2 (List.mem_of_getElem? (i := 126) rfl)) rfl
set_option maxRecDepth 100000 in
theorem qw368 : (Cond.instanceMethod yX2_restFrom) ∈ LA := LA_t (LT2 (List.mem_of_getElem? (i := 128) rfl)) rfl
set_option maxRecDepth 100000 in
theorem qw369 : (Cond.code yX2_restFrom cX2_restFrom 3 (some .int)) ∈ LA := LA_t (LT2 (List.mem_of_getElem? (i := 129) rfl)) rfl
set_option maxRecDepth 100000 in
theorem qw370 : (Cond.methodLink RX4 87 yX4_cellName) ∈ LA := LA_t (LT2 (List.mem_of_getElem? (i := 130) rfl)) rfl
set_option maxRecDepth 100000 in
theorem qw371 : (Cond.static yX4_cellName) ∈ LA := LA_t (LT2 (List.mem_of_getElem? (i := 131) rfl)) rfl
set_option maxRecDepth 100000 in
theorem qw372 : (Cond.code yX4_cellName cX4_cellName 1 (some .int)) ∈ LA := LA_t (LT2 (List.mem_of_getElem? (i := 132) rfl)) rfl
set_option maxRecDepth 100000 in
theorem qw373 : (Cond.methodLink RL 143 yL_cell) ∈ LA := LA_t (LT2 (List.mem_of_getElem? (i := 133) rfl)) rfl
set_option maxRecDepth 100000 in
theorem qw374 : (Cond.static yL_cell) ∈ LA := LA_t (LT2 (List.mem_of_getElem? (i := 134) rfl)) rfl
set_option maxRecDepth 100000 in
theorem qw375 : (Cond.code yL_cell cL_cell 2 (some .int)) ∈ LA := LA_t (LT2 (List.mem_of_getElem? (i := 135) rfl)) rfl
set_option maxRecDepth 100000 in
theorem qw376 : (Cond.constant RL 7 44017) ∈ LA := LA_t (LT2 (List.mem_of_getElem? (i := 136) rfl)) rfl
set_option maxRecDepth 100000 in
theorem qw377 : (Cond.constant RL 8 2147483647) ∈ LA := LA_t (LT2 (List.mem_of_getElem? (i := 137) rfl)) rfl
set_option maxRecDepth 100000 in
theorem qw378 : (Cond.methodLink RL 89 yL_garden) ∈ LA := LA_t (LT2 (List.mem_of_getElem? (i := 138) rfl)) rfl
set_option maxRecDepth 100000 in
theorem qw379 : (Cond.static yL_garden) ∈ LA := LA_t (LT2 (List.mem_of_getElem? (i := 139) rfl)) rfl
set_option maxRecDepth 100000 in
theorem qw380 : (Cond.codeWith yL_garden cL_garden 4 (some .int) [(0, 6, 7, 15)]) ∈ LA := LA_t (LT2 (List.mem_of_getElem? (i := 140) rfl)) rfl
set_option maxRecDepth 100000 in
theorem qw381 : (Cond.classLink RL 15 "java/lang/IllegalArgumentException") ∈ LA := LA_t (LT2 (List.mem_of_getElem? (i := 141) rfl)) rfl
set_option maxRecDepth 100000 in
theorem qw382 : (Cond.methodLink RL 9 yX4_garden) ∈ LA := LA_t (LT2 (List.mem_of_getElem? (i := 142) rfl)) rfl
set_option maxRecDepth 100000 in
theorem qw383 : (Cond.instanceMethod yX4_garden) ∈ LA := LA_t (LT2 (List.mem_of_getElem? (i := 143) rfl)) rfl
set_option maxRecDepth 100000 in
theorem qw384 : (Cond.selects RX4 yX4_garden yX4_garden) ∈ LA := LA_t (LT2 (List.mem_of_getElem? (i := 144) rfl)) rfl
set_option maxRecDepth 100000 in
theorem qw385 : (Cond.code yX4_garden cX4_garden 3 (some .int)) ∈ LA := LA_t (LT2 (List.mem_of_getElem? (i := 145) rfl)) rfl
set_option maxRecDepth 100000 in
theorem qw386 : (Cond.methodLink RX4 41 yX4_isSide) ∈ LA := LA_t (LT2 (List.mem_of_getElem? (i := 146) rfl)) rfl
set_option maxRecDepth 100000 in
theorem qw387 : (Cond.static yX4_isSide) ∈ LA := LA_t (LT2 (List.mem_of_getElem? (i := 147) rfl)) rfl
set_option maxRecDepth 100000 in
theorem qw388 : (Cond.code yX4_isSide cX4_isSide 1 (some .boolean)) ∈ LA := LA_t (LT2 (List.mem_of_getElem? (i := 148) rfl)) rfl
set_option maxRecDepth 100000 in
theorem qw389 : (Cond.classLink RX4 45 "java/lang/IllegalArgumentException") ∈ LA := LA_t (LT2 (List.mem_of_getElem? (i := 149) rfl)) rfl
set_option maxRecDepth 100000 in
theorem qw390 : (Cond.instantiable "java/lang/IllegalArgumentException" 6) ∈ LA := LA_t (LT2 (List.mem_of_getElem? (i := 150) rfl)) rfl
set_option maxRecDepth 100000 in
theorem qw391 : (Cond.castable "java/lang/IllegalArgumentException" "java/lang/IllegalArgumentException") ∈ LN := LN_t (LT2 (List.mem_of_getElem? (i := 151) rfl)) rfl
set_option maxRecDepth 100000 in
theorem qw392 : (Cond.declares ⟨"java/lang/RuntimeException", "<init>", "()V"⟩) ∈ LN := LN_t (LT2 (List.mem_of_getElem? (i := 152) rfl)) rfl
set_option maxRecDepth 100000 in
theorem qw393 : (Cond.declares ⟨"java/lang/RuntimeException", "<init>", "(Ljava/lang/String;)V"⟩) ∈ LN := LN_t (LT2 (List.mem_of_getElem? (i := 153) rfl)) rfl
set_option maxRecDepth 100000 in
theorem qw394 : (Cond.declares ⟨"java/lang/Exception", "<init>", "()V"⟩) ∈ LN := LN_t (LT2 (List.mem_of_getElem? (i := 154) rfl)) rfl
set_option maxRecDepth 100000 in
theorem qw395 : (Cond.declares ⟨"java/lang/Exception", "<init>", "(Ljava/lang/String;)V"⟩) ∈ LN := LN_t (LT2 (List.mem_of_getElem? (i := 155) rfl)) rfl
set_option maxRecDepth 100000 in
theorem qw396 : (Cond.declares ⟨"java/lang/Throwable", "<init>", "()V"⟩) ∈ LN := LN_t (LT2 (List.mem_of_getElem? (i := 156) rfl)) rfl
set_option maxRecDepth 100000 in
theorem qw397 : (Cond.declares ⟨"java/lang/Throwable", "<init>", "(Ljava/lang/String;)V"⟩) ∈ LN := LN_t (LT2 (List.mem_of_getElem? (i := 157) rfl)) rfl
set_option maxRecDepth 100000 in
theorem qw398 : (Cond.selects "java/lang/IllegalArgumentException" ⟨"java/lang/Throwable", "fillInStackTrace", "(I)Ljava/lang/Throwable;"⟩ ⟨"java/lang/Throwable", "fillInStackTrace", "(I)Ljava/lang/Throwable;"⟩) ∈ LA := LA_t (LT2 (List.mem_of_getElem? (i := 158) rfl)) rfl
set_option maxRecDepth 100000 in
theorem qw399 : (Cond.selects "java/lang/IllegalArgumentException" ⟨"java/lang/Throwable", "fillInStackTrace", "()Ljava/lang/Throwable;"⟩ ⟨"java/lang/Throwable", "fillInStackTrace", "()Ljava/lang/Throwable;"⟩) ∈ LA := LA_t (LT2 (List.mem_of_getElem? (i := 159) rfl)) rfl
set_option maxRecDepth 100000 in
theorem qw400 : (Cond.lays "java/lang/IllegalArgumentException" "java/lang/Throwable" "cause" "Ljava/lang/Throwable;") ∈ LA := LA_t (LT2 (List.mem_of_getElem? (i := 160) rfl)) rfl
set_option maxRecDepth 100000 in
theorem qw401 : (Cond.lays "java/lang/Throwable" "java/lang/Throwable" "cause" "Ljava/lang/Throwable;") ∈ LA := LA_t (LT2 (List.mem_of_getElem? (i := 161) rfl)) rfl
set_option maxRecDepth 100000 in
theorem qw402 : (Cond.lays "java/lang/IllegalArgumentException" "java/lang/Throwable" "stackTrace" "[Ljava/lang/StackTraceElement;") ∈ LA := LA_t (LT2 (List.mem_of_getElem? (i := 162) rfl)) rfl
set_option maxRecDepth 100000 in
theorem qw403 : (Cond.lays "java/lang/Throwable" "java/lang/Throwable" "stackTrace" "[Ljava/lang/StackTraceElement;") ∈ LA := LA_t (LT2 (List.mem_of_getElem? (i := 163) rfl)) rfl
set_option maxRecDepth 100000 in
theorem qw404 : (Cond.lays "java/lang/IllegalArgumentException" "java/lang/Throwable" "suppressedExceptions" "Ljava/util/List;") ∈ LA := LA_t (LT2 (List.mem_of_getElem? (i := 164) rfl)) rfl
set_option maxRecDepth 100000 in
theorem qw405 : (Cond.lays "java/lang/Throwable" "java/lang/Throwable" "suppressedExceptions" "Ljava/util/List;") ∈ LA := LA_t (LT2 (List.mem_of_getElem? (i := 165) rfl)) rfl
set_option maxRecDepth 100000 in
theorem qw406 : (Cond.lays "java/lang/IllegalArgumentException" "java/lang/Throwable" "detailMessage" "Ljava/lang/String;") ∈ LA := LA_t (LT2 (List.mem_of_getElem? (i := 166) rfl)) rfl
set_option maxRecDepth 100000 in
theorem qw407 : (Cond.lays "java/lang/Throwable" "java/lang/Throwable" "detailMessage" "Ljava/lang/String;") ∈ LA := LA_t (LT2 (List.mem_of_getElem? (i := 167) rfl)) rfl
set_option maxRecDepth 100000 in
theorem qw408 : (Cond.lays "java/lang/IllegalArgumentException" "java/lang/Throwable" "backtrace" "Ljava/lang/Object;") ∈ LA := LA_t (LT2 (List.mem_of_getElem? (i := 168) rfl)) rfl
set_option maxRecDepth 100000 in
theorem qw409 : (Cond.lays "java/lang/Throwable" "java/lang/Throwable" "backtrace" "Ljava/lang/Object;") ∈ LA := LA_t (LT2 (List.mem_of_getElem? (i := 169) rfl)) rfl
set_option maxRecDepth 100000 in
theorem qw410 : (Cond.fieldLink "java/lang/Throwable" 198 "java/lang/Throwable" "backtrace" "Ljava/lang/Object;") ∈ LA := LA_t (LT2 (List.mem_of_getElem? (i := 170) rfl)) rfl
set_option maxRecDepth 100000 in
theorem qw412 : (Cond.instanceMethod ⟨"java/lang/Throwable", "<init>", "()V"⟩) ∈ LA := LA_t (LT2 (List.mem_of_getElem? (i := 172) rfl)) rfl
set_option maxRecDepth 100000 in
theorem qw413 : (Cond.code ⟨"java/lang/Throwable", "<init>", "()V"⟩ prog_24_method_1_code 1 none) ∈ LA := LA_t (LT2 (List.mem_of_getElem? (i := 173) rfl)) rfl
set_option maxRecDepth 100000 in
theorem qw414 : (Cond.methodLink "java/lang/Throwable" 1 objectInit) ∈ LA := LA_t (LT2 (List.mem_of_getElem? (i := 174) rfl)) rfl
set_option maxRecDepth 100000 in
theorem qw415 : (Cond.fieldLink "java/lang/Throwable" 13 "java/lang/Throwable" "UNASSIGNED_STACK" "[Ljava/lang/StackTraceElement;") ∈ LA := LA_t (LT2 (List.mem_of_getElem? (i := 175) rfl)) rfl
set_option maxRecDepth 100000 in
theorem qw417 : (Cond.fieldLink "java/lang/Throwable" 20 "java/lang/Throwable" "SUPPRESSED_SENTINEL" "Ljava/util/List;") ∈ LA := LA_t (LT2 (List.mem_of_getElem? (i := 177) rfl)) rfl
set_option maxRecDepth 100000 in
theorem qw419 : (Cond.methodLink "java/lang/Throwable" 27 ⟨"java/lang/Throwable", "fillInStackTrace", "()Ljava/lang/Throwable;"⟩) ∈ LA := LA_t (LT2 (List.mem_of_getElem? (i := 179) rfl)) rfl
set_option maxRecDepth 100000 in
theorem qw420 : (Cond.instanceMethod ⟨"java/lang/Throwable", "fillInStackTrace", "()Ljava/lang/Throwable;"⟩) ∈ LA := LA_t (LT2 (List.mem_of_getElem? (i := 180) rfl)) rfl
set_option maxRecDepth 100000 in
theorem qw421 : (Cond.sameMethod "java/lang/Throwable" "java/lang/Throwable" "fillInStackTrace" "()Ljava/lang/Throwable;") ∈ LA := LA_t (LT2 (List.mem_of_getElem? (i := 181) rfl)) rfl
set_option maxRecDepth 100000 in
theorem qw422 : (Cond.selects "java/lang/IllegalStateException" ⟨"java/lang/Throwable", "fillInStackTrace", "()Ljava/lang/Throwable;"⟩ ⟨"java/lang/Throwable", "fillInStackTrace", "()Ljava/lang/Throwable;"⟩) ∈ LA := LA_t (LT2 (List.mem_of_getElem? (i := 182) rfl)) rfl
set_option maxRecDepth 100000 in
theorem qw423 : (Cond.selects "java/lang/IndexOutOfBoundsException" ⟨"java/lang/Throwable", "fillInStackTrace", "()Ljava/lang/Throwable;"⟩ ⟨"java/lang/Throwable", "fillInStackTrace", "()Ljava/lang/Throwable;"⟩) ∈ LA := LA_t (LT2 (List.mem_of_getElem? (i := 183) rfl)) rfl
set_option maxRecDepth 100000 in
theorem qw425 : (Cond.methodLink "java/lang/Throwable" 202 ⟨"java/lang/Throwable", "fillInStackTrace", "(I)Ljava/lang/Throwable;"⟩) ∈ LA := LA_t (LT2 (List.mem_of_getElem? (i := 185) rfl)) rfl
set_option maxRecDepth 100000 in
theorem qw427 : (Cond.instanceMethod ⟨"java/lang/Throwable", "fillInStackTrace", "(I)Ljava/lang/Throwable;"⟩) ∈ LA := LA_t (LT2 (List.mem_of_getElem? (i := 187) rfl)) rfl
set_option maxRecDepth 100000 in
theorem qw428 : (Cond.instantiable "java/lang/Throwable" 6) ∈ LA := LA_t (LT2 (List.mem_of_getElem? (i := 188) rfl)) rfl
set_option maxRecDepth 100000 in
theorem qw429 : (Cond.native ⟨"java/lang/Throwable", "fillInStackTrace", "(I)Ljava/lang/Throwable;"⟩) ∈ LA := LA_t (LT2 (List.mem_of_getElem? (i := 189) rfl)) rfl
set_option maxRecDepth 100000 in
theorem qw431 : (Cond.methodLink RX4 49 ⟨"java/lang/IllegalArgumentException", "<init>", "(Ljava/lang/String;)V"⟩) ∈ LA := LA_t (LT2 (List.mem_of_getElem? (i := 191) rfl)) rfl
set_option maxRecDepth 100000 in
theorem qw432 : (Cond.instanceMethod ⟨"java/lang/IllegalArgumentException", "<init>", "(Ljava/lang/String;)V"⟩) ∈ LA := LA_t (LT2 (List.mem_of_getElem? (i := 192) rfl)) rfl
set_option maxRecDepth 100000 in
theorem qw433 : (Cond.code ⟨"java/lang/IllegalArgumentException", "<init>", "(Ljava/lang/String;)V"⟩ prog_13_method_2_code 2 none) ∈ LA := LA_t (LT2 (List.mem_of_getElem? (i := 193) rfl)) rfl
set_option maxRecDepth 100000 in
theorem qw434 : (Cond.methodLink "java/lang/IllegalArgumentException" 7 ⟨"java/lang/RuntimeException", "<init>", "(Ljava/lang/String;)V"⟩) ∈ LA := LA_t (LT2 (List.mem_of_getElem? (i := 194) rfl)) rfl
set_option maxRecDepth 100000 in
theorem qw435 : (Cond.instanceMethod ⟨"java/lang/RuntimeException", "<init>", "(Ljava/lang/String;)V"⟩) ∈ LA := LA_t (LT2 (List.mem_of_getElem? (i := 195) rfl)) rfl
set_option maxRecDepth 100000 in
theorem qw436 : (Cond.code ⟨"java/lang/RuntimeException", "<init>", "(Ljava/lang/String;)V"⟩ prog_21_method_2_code 2 none) ∈ LA := LA_t (LT2 (List.mem_of_getElem? (i := 196) rfl)) rfl
set_option maxRecDepth 100000 in
theorem qw437 : (Cond.methodLink "java/lang/RuntimeException" 7 ⟨"java/lang/Exception", "<init>", "(Ljava/lang/String;)V"⟩) ∈ LA := LA_t (LT2 (List.mem_of_getElem? (i := 197) rfl)) rfl
set_option maxRecDepth 100000 in
theorem qw438 : (Cond.instanceMethod ⟨"java/lang/Exception", "<init>", "(Ljava/lang/String;)V"⟩) ∈ LA := LA_t (LT2 (List.mem_of_getElem? (i := 198) rfl)) rfl
set_option maxRecDepth 100000 in
theorem qw439 : (Cond.code ⟨"java/lang/Exception", "<init>", "(Ljava/lang/String;)V"⟩ prog_12_method_2_code 2 none) ∈ LA := LA_t (LT2 (List.mem_of_getElem? (i := 199) rfl)) rfl
set_option maxRecDepth 100000 in
theorem qw440 : (Cond.methodLink "java/lang/Exception" 7 ⟨"java/lang/Throwable", "<init>", "(Ljava/lang/String;)V"⟩) ∈ LA := LA_t (LT2 (List.mem_of_getElem? (i := 200) rfl)) rfl
set_option maxRecDepth 100000 in
theorem qw441 : (Cond.instanceMethod ⟨"java/lang/Throwable", "<init>", "(Ljava/lang/String;)V"⟩) ∈ LA := LA_t (LT2 (List.mem_of_getElem? (i := 201) rfl)) rfl
set_option maxRecDepth 100000 in
theorem qw442 : (Cond.code ⟨"java/lang/Throwable", "<init>", "(Ljava/lang/String;)V"⟩ prog_24_method_2_code 2 none) ∈ LA := LA_t (LT2 (List.mem_of_getElem? (i := 202) rfl)) rfl
set_option maxRecDepth 100000 in
theorem qw443 : (Cond.fieldLink "java/lang/Throwable" 198 "java/lang/Throwable" "backtrace" "Ljava/lang/Object;") ∈ LA := LA_t (LT2 (List.mem_of_getElem? (i := 203) rfl)) rfl
set_option maxRecDepth 100000 in
theorem qw444 : (Cond.fieldLink "java/lang/Throwable" 31 "java/lang/Throwable" "detailMessage" "Ljava/lang/String;") ∈ LA := LA_t (LT2 (List.mem_of_getElem? (i := 204) rfl)) rfl
set_option maxRecDepth 100000 in
theorem qw445 : (Cond.fieldLink "java/lang/Throwable" 7 "java/lang/Throwable" "cause" "Ljava/lang/Throwable;") ∈ LA := LA_t (LT2 (List.mem_of_getElem? (i := 205) rfl)) rfl
set_option maxRecDepth 100000 in
theorem qw446 : (Cond.fieldLink "java/lang/Throwable" 17 "java/lang/Throwable" "stackTrace" "[Ljava/lang/StackTraceElement;") ∈ LA := LA_t (LT2 (List.mem_of_getElem? (i := 206) rfl)) rfl
set_option maxRecDepth 100000 in
theorem qw447 : (Cond.fieldLink "java/lang/Throwable" 24 "java/lang/Throwable" "suppressedExceptions" "Ljava/util/List;") ∈ LA := LA_t (LT2 (List.mem_of_getElem? (i := 207) rfl)) rfl
set_option maxRecDepth 100000 in
theorem qw452 : (Cond.lays "java/lang/IllegalArgumentException" "java/lang/Throwable" "depth" "I") ∈ LA := LA_t (LT2 (List.mem_of_getElem? (i := 212) rfl)) rfl
set_option maxRecDepth 100000 in
theorem qw456 : (Cond.arrayClass .byte) ∈ LA := LA_t (LT2 (List.mem_of_getElem? (i := 216) rfl)) rfl
set_option maxRecDepth 100000 in
theorem qw457 : (Cond.methodLink RX4 52 yX4_saveState) ∈ LA := LA_t (LT2 (List.mem_of_getElem? (i := 217) rfl)) rfl
set_option maxRecDepth 100000 in
theorem qw459 : (Cond.instanceMethod yX4_saveState) ∈ LA := LA_t (LT2 (List.mem_of_getElem? (i := 219) rfl)) rfl
set_option maxRecDepth 100000 in
theorem qw460 : (Cond.code yX4_saveState cX4_saveState 1 none) ∈ LA := LA_t (LT2 (List.mem_of_getElem? (i := 220) rfl)) rfl
set_option maxRecDepth 100000 in
theorem qw461 : (Cond.methodLink RX4 213 yJx4a65c_size_8abf5) ∈ LA := LA_t (LT2 (List.mem_of_getElem? (i := 221) rfl)) rfl
set_option maxRecDepth 100000 in
theorem qw462 : (Cond.instanceMethod yJx4a65c_size_8abf5) ∈ LA := LA_t (LT2 (List.mem_of_getElem? (i := 222) rfl)) rfl
set_option maxRecDepth 100000 in
theorem qw463 : (Cond.selects RJx4a65c yJx4a65c_size_8abf5 yJx4a65c_size_8abf5) ∈ LA := LA_t (LT2 (List.mem_of_getElem? (i := 223) rfl)) rfl
set_option maxRecDepth 100000 in
theorem qw464 : (Cond.code yJx4a65c_size_8abf5 cJx4a65c_size_8abf5 1 (some .int)) ∈ LA := LA_t (LT2 (List.mem_of_getElem? (i := 224) rfl)) rfl
set_option maxRecDepth 100000 in
theorem qw465 : (Cond.methodLink RX4 223 yJx4a65c_remove_915e3) ∈ LA := LA_t (LT2 (List.mem_of_getElem? (i := 225) rfl)) rfl
set_option maxRecDepth 100000 in
theorem qw466 : (Cond.instanceMethod yJx4a65c_remove_915e3) ∈ LA := LA_t (LT2 (List.mem_of_getElem? (i := 226) rfl)) rfl
set_option maxRecDepth 100000 in
theorem qw467 : (Cond.selects RJx4a65c yJx4a65c_remove_915e3 yJx4a65c_remove_915e3) ∈ LA := LA_t (LT2 (List.mem_of_getElem? (i := 227) rfl)) rfl
set_option maxRecDepth 100000 in
theorem qw468 : (Cond.code yJx4a65c_remove_915e3 cJx4a65c_remove_915e3 4 (some (.object "java/lang/Object"))) ∈ LA := LA_t (LT2 (List.mem_of_getElem? (i := 228) rfl)) rfl
set_option maxRecDepth 100000 in
theorem qw469 : (Cond.methodLink RJx4a65c 118 yJ15_checkIndex_7cf53) ∈ LA := LA_t (LT2 (List.mem_of_getElem? (i := 229) rfl)) rfl
set_option maxRecDepth 100000 in
theorem qw470 : (Cond.static yJ15_checkIndex_7cf53) ∈ LA := LA_t (LT2 (List.mem_of_getElem? (i := 230) rfl)) rfl
set_option maxRecDepth 100000 in
theorem qw471 : (Cond.code yJ15_checkIndex_7cf53 cJ15_checkIndex_7cf53 2 (some .int)) ∈ LA := LA_t (LT2 (List.mem_of_getElem? (i := 231) rfl)) rfl
set_option maxRecDepth 100000 in
theorem qw472 : (Cond.methodLink RJ15 105 yJ3_checkIndex_8e157) ∈ LA := LA_t (LT2 (List.mem_of_getElem? (i := 232) rfl)) rfl
set_option maxRecDepth 100000 in
theorem qw473 : (Cond.static yJ3_checkIndex_8e157) ∈ LA := LA_t (LT2 (List.mem_of_getElem? (i := 233) rfl)) rfl
set_option maxRecDepth 100000 in
theorem qw474 : (Cond.code yJ3_checkIndex_8e157 cJ3_checkIndex_8e157 3 (some .int)) ∈ LA := LA_t (LT2 (List.mem_of_getElem? (i := 234) rfl)) rfl
set_option maxRecDepth 100000 in
theorem qw475 : (Cond.methodLink RJx4a65c 144 yJx4a65c_fastRemove_b59b0) ∈ LA := LA_t (LT2 (List.mem_of_getElem? (i := 235) rfl)) rfl
set_option maxRecDepth 100000 in
theorem qw477 : (Cond.instanceMethod yJx4a65c_fastRemove_b59b0) ∈ LA := LA_t (LT2 (List.mem_of_getElem? (i := 237) rfl)) rfl
set_option maxRecDepth 100000 in
theorem qw478 : (Cond.code yJx4a65c_fastRemove_b59b0 cJx4a65c_fastRemove_b59b0 4 none) ∈ LA := LA_t (LT2 (List.mem_of_getElem? (i := 238) rfl)) rfl
set_option maxRecDepth 100000 in
theorem qw479 : (Cond.methodLink RJx4a65c 112 arraycopyName) ∈ LA := LA_t (LT2 (List.mem_of_getElem? (i := 239) rfl)) rfl
set_option maxRecDepth 100000 in
theorem qw480 : (Cond.static arraycopyName) ∈ LA := LA_t (LT3 (List.mem_of_getElem? (i := 0) rfl)) rfl
set_option maxRecDepth 100000 in
theorem qw481 : (Cond.native arraycopyName) ∈ LA := LA_t (LT3 (List.mem_of_getElem? (i := 1) rfl)) rfl
set_option maxRecDepth 100000 in
theorem qw482 : (Cond.methodLink RX4 207 yX1_copied) ∈ LA := LA_t (LT3 (List.mem_of_getElem? (i := 2) rfl)) rfl
set_option maxRecDepth 100000 in
theorem qw483 : (Cond.instanceMethod yX1_copied) ∈ LA := LA_t (LT3 (List.mem_of_getElem? (i := 3) rfl)) rfl
set_option maxRecDepth 100000 in
theorem qw484 : (Cond.selects RX1 yX1_copied yX1_copied) ∈ LA := LA_t (LT3 (List.mem_of_getElem? (i := 4) rfl)) rfl
set_option maxRecDepth 100000 in
theorem qw485 : (Cond.code yX1_copied cX1_copied 2 (some (.object "BentGardens$Garden"))) ∈ LA := LA_t (LT3 (List.mem_of_getElem? (i := 5) rfl)) rfl
set_option maxRecDepth 100000 in
theorem qw486 : (Cond.classLink RX1 10 RX1) ∈ LA := LA_t (LT3 (List.mem_of_getElem? (i := 6) rfl)) rfl
set_option maxRecDepth 100000 in
theorem qw487 : (Cond.methodLink RX1 41 yX1_init) ∈ LA := LA_t (LT3 (List.mem_of_getElem? (i := 7) rfl)) rfl
set_option maxRecDepth 100000 in
theorem qw488 : (Cond.methodLink RX1 42 arraycopyName) ∈ LA := LA_t (LT3 (List.mem_of_getElem? (i := 8) rfl)) rfl
set_option maxRecDepth 100000 in
theorem qw489 : (Cond.methodLink RX4 360 yJx4a65c_add_9ea2d) ∈ LA := LA_t (LT3 (List.mem_of_getElem? (i := 9) rfl)) rfl
set_option maxRecDepth 100000 in
theorem qw490 : (Cond.instanceMethod yJx4a65c_add_9ea2d) ∈ LA := LA_t (LT3 (List.mem_of_getElem? (i := 10) rfl)) rfl
set_option maxRecDepth 100000 in
theorem qw491 : (Cond.selects RJx4a65c yJx4a65c_add_9ea2d yJx4a65c_add_9ea2d) ∈ LA := LA_t (LT3 (List.mem_of_getElem? (i := 11) rfl)) rfl
set_option maxRecDepth 100000 in
theorem qw492 : (Cond.code yJx4a65c_add_9ea2d cJx4a65c_add_9ea2d 2 (some .boolean)) ∈ LA := LA_t (LT3 (List.mem_of_getElem? (i := 12) rfl)) rfl
set_option maxRecDepth 100000 in
theorem qw493 : (Cond.methodLink RJx4a65c 131 yJx4a65c_add_72be8) ∈ LA := LA_t (LT3 (List.mem_of_getElem? (i := 13) rfl)) rfl
set_option maxRecDepth 100000 in
theorem qw495 : (Cond.instanceMethod yJx4a65c_add_72be8) ∈ LA := LA_t (LT3 (List.mem_of_getElem? (i := 15) rfl)) rfl
set_option maxRecDepth 100000 in
theorem qw496 : (Cond.code yJx4a65c_add_72be8 cJx4a65c_add_72be8 4 none) ∈ LA := LA_t (LT3 (List.mem_of_getElem? (i := 16) rfl)) rfl
set_option maxRecDepth 100000 in
theorem qw497 : (Cond.methodLink RJx4a65c 129 yJx4a65c_grow_d5877) ∈ LA := LA_t (LT3 (List.mem_of_getElem? (i := 17) rfl)) rfl
set_option maxRecDepth 100000 in
theorem qw499 : (Cond.instanceMethod yJx4a65c_grow_d5877) ∈ LA := LA_t (LT3 (List.mem_of_getElem? (i := 19) rfl)) rfl
set_option maxRecDepth 100000 in
theorem qw500 : (Cond.code yJx4a65c_grow_d5877 cJx4a65c_grow_d5877 1 (some (.array (.object "java/lang/Object")))) ∈ LA := LA_t (LT3 (List.mem_of_getElem? (i := 20) rfl)) rfl
set_option maxRecDepth 100000 in
theorem qw501 : (Cond.methodLink RJx4a65c 69 yJx4a65c_grow_92f84) ∈ LA := LA_t (LT3 (List.mem_of_getElem? (i := 21) rfl)) rfl
set_option maxRecDepth 100000 in
theorem qw503 : (Cond.instanceMethod yJx4a65c_grow_92f84) ∈ LA := LA_t (LT3 (List.mem_of_getElem? (i := 23) rfl)) rfl
set_option maxRecDepth 100000 in
theorem qw504 : (Cond.code yJx4a65c_grow_92f84 cJx4a65c_grow_92f84 4 (some (.array (.object "java/lang/Object")))) ∈ LA := LA_t (LT3 (List.mem_of_getElem? (i := 24) rfl)) rfl
set_option maxRecDepth 100000 in
theorem qw505 : (Cond.methodLink RJx4a65c 73 yJ8_newLength_cabcc) ∈ LA := LA_t (LT3 (List.mem_of_getElem? (i := 25) rfl)) rfl
set_option maxRecDepth 100000 in
theorem qw506 : (Cond.static yJ8_newLength_cabcc) ∈ LA := LA_t (LT3 (List.mem_of_getElem? (i := 26) rfl)) rfl
set_option maxRecDepth 100000 in
theorem qw507 : (Cond.code yJ8_newLength_cabcc cJ8_newLength_cabcc 4 (some .int)) ∈ LA := LA_t (LT3 (List.mem_of_getElem? (i := 27) rfl)) rfl
set_option maxRecDepth 100000 in
theorem qw508 : (Cond.methodLink RJ8 194 yJ9_max_7cf53) ∈ LA := LA_t (LT3 (List.mem_of_getElem? (i := 28) rfl)) rfl
set_option maxRecDepth 100000 in
theorem qw509 : (Cond.constant RJ8 200 2147483639) ∈ LA := LA_t (LT3 (List.mem_of_getElem? (i := 29) rfl)) rfl
set_option maxRecDepth 100000 in
theorem qw510 : (Cond.methodLink RJ8 201 yJ8_hugeLength_7cf53) ∈ LA := LA_t (LT3 (List.mem_of_getElem? (i := 30) rfl)) rfl
set_option maxRecDepth 100000 in
theorem qw511 : (Cond.static yJ8_hugeLength_7cf53) ∈ LA := LA_t (LT3 (List.mem_of_getElem? (i := 31) rfl)) rfl
set_option maxRecDepth 100000 in
theorem qw512 : (Cond.code yJ8_hugeLength_7cf53 cJ8_hugeLength_7cf53 3 (some .int)) ∈ LA := LA_t (LT3 (List.mem_of_getElem? (i := 32) rfl)) rfl
set_option maxRecDepth 100000 in
theorem qw513 : (Cond.methodLink RJx4a65c 66 yJ7_copyOf_1904c) ∈ LA := LA_t (LT3 (List.mem_of_getElem? (i := 33) rfl)) rfl
set_option maxRecDepth 100000 in
theorem qw514 : (Cond.static yJ7_copyOf_1904c) ∈ LA := LA_t (LT3 (List.mem_of_getElem? (i := 34) rfl)) rfl
set_option maxRecDepth 100000 in
theorem qw515 : (Cond.code yJ7_copyOf_1904c cJ7_copyOf_1904c 2 (some (.array (.object "java/lang/Object")))) ∈ LA := LA_t (LT3 (List.mem_of_getElem? (i := 35) rfl)) rfl
set_option maxRecDepth 100000 in
theorem qw516 : (Cond.methodLink RJ7 86 ⟨"java/lang/Object", "getClass", "()Ljava/lang/Class;"⟩) ∈ LA := LA_t (LT3 (List.mem_of_getElem? (i := 36) rfl)) rfl
set_option maxRecDepth 100000 in
theorem qw517 : (Cond.instanceMethod ⟨"java/lang/Object", "getClass", "()Ljava/lang/Class;"⟩) ∈ LA := LA_t (LT3 (List.mem_of_getElem? (i := 37) rfl)) rfl
set_option maxRecDepth 100000 in
theorem qw518 : (Cond.sameMethod "java/lang/Object" "java/lang/Object" "getClass" "()Ljava/lang/Class;") ∈ LA := LA_t (LT3 (List.mem_of_getElem? (i := 38) rfl)) rfl
set_option maxRecDepth 100000 in
theorem qw519 : (Cond.selects RX4 ⟨"java/lang/Object", "getClass", "()Ljava/lang/Class;"⟩ ⟨"java/lang/Object", "getClass", "()Ljava/lang/Class;"⟩) ∈ LA := LA_t (LT3 (List.mem_of_getElem? (i := 39) rfl)) rfl
set_option maxRecDepth 100000 in
theorem qw520 : (Cond.selects RX0 ⟨"java/lang/Object", "getClass", "()Ljava/lang/Class;"⟩ ⟨"java/lang/Object", "getClass", "()Ljava/lang/Class;"⟩) ∈ LA := LA_t (LT3 (List.mem_of_getElem? (i := 40) rfl)) rfl
set_option maxRecDepth 100000 in
theorem qw521 : (Cond.selects RX1 ⟨"java/lang/Object", "getClass", "()Ljava/lang/Class;"⟩ ⟨"java/lang/Object", "getClass", "()Ljava/lang/Class;"⟩) ∈ LA := LA_t (LT3 (List.mem_of_getElem? (i := 41) rfl)) rfl
set_option maxRecDepth 100000 in
theorem qw522 : (Cond.selects RX2 ⟨"java/lang/Object", "getClass", "()Ljava/lang/Class;"⟩ ⟨"java/lang/Object", "getClass", "()Ljava/lang/Class;"⟩) ∈ LA := LA_t (LT3 (List.mem_of_getElem? (i := 42) rfl)) rfl
set_option maxRecDepth 100000 in
theorem qw523 : (Cond.selects RX6 ⟨"java/lang/Object", "getClass", "()Ljava/lang/Class;"⟩ ⟨"java/lang/Object", "getClass", "()Ljava/lang/Class;"⟩) ∈ LA := LA_t (LT3 (List.mem_of_getElem? (i := 43) rfl)) rfl
set_option maxRecDepth 100000 in
theorem qw524 : (Cond.selects RX3 ⟨"java/lang/Object", "getClass", "()Ljava/lang/Class;"⟩ ⟨"java/lang/Object", "getClass", "()Ljava/lang/Class;"⟩) ∈ LA := LA_t (LT3 (List.mem_of_getElem? (i := 44) rfl)) rfl
set_option maxRecDepth 100000 in
theorem qw525 : (Cond.selects "java/lang/IllegalArgumentException" ⟨"java/lang/Object", "getClass", "()Ljava/lang/Class;"⟩ ⟨"java/lang/Object", "getClass", "()Ljava/lang/Class;"⟩) ∈ LA := LA_t (LT3 (List.mem_of_getElem? (i := 45) rfl)) rfl
set_option maxRecDepth 100000 in
theorem qw526 : (Cond.selects "java/lang/IllegalStateException" ⟨"java/lang/Object", "getClass", "()Ljava/lang/Class;"⟩ ⟨"java/lang/Object", "getClass", "()Ljava/lang/Class;"⟩) ∈ LA := LA_t (LT3 (List.mem_of_getElem? (i := 46) rfl)) rfl
set_option maxRecDepth 100000 in
theorem qw527 : (Cond.selects "java/lang/IndexOutOfBoundsException" ⟨"java/lang/Object", "getClass", "()Ljava/lang/Class;"⟩ ⟨"java/lang/Object", "getClass", "()Ljava/lang/Class;"⟩) ∈ LA := LA_t (LT3 (List.mem_of_getElem? (i := 47) rfl)) rfl
set_option maxRecDepth 100000 in
theorem qw528 : (Cond.selects RJx4a65c ⟨"java/lang/Object", "getClass", "()Ljava/lang/Class;"⟩ ⟨"java/lang/Object", "getClass", "()Ljava/lang/Class;"⟩) ∈ LA := LA_t (LT3 (List.mem_of_getElem? (i := 48) rfl)) rfl
set_option maxRecDepth 100000 in
theorem qw529 : (Cond.native ⟨"java/lang/Object", "getClass", "()Ljava/lang/Class;"⟩) ∈ LA := LA_t (LT3 (List.mem_of_getElem? (i := 49) rfl)) rfl
set_option maxRecDepth 100000 in
theorem qw530 : (Cond.methodLink RJ7 300 yJ7_copyOf_6403c) ∈ LA := LA_t (LT3 (List.mem_of_getElem? (i := 50) rfl)) rfl
set_option maxRecDepth 100000 in
theorem qw531 : (Cond.static yJ7_copyOf_6403c) ∈ LA := LA_t (LT3 (List.mem_of_getElem? (i := 51) rfl)) rfl
set_option maxRecDepth 100000 in
theorem qw532 : (Cond.code yJ7_copyOf_6403c cJ7_copyOf_6403c 4 (some (.array (.object "java/lang/Object")))) ∈ LA := LA_t (LT3 (List.mem_of_getElem? (i := 52) rfl)) rfl
set_option maxRecDepth 100000 in
theorem qw533 : (Cond.classLink RJ7 110 "[Ljava/lang/Object;") ∈ LA := LA_t (LT3 (List.mem_of_getElem? (i := 53) rfl)) rfl
set_option maxRecDepth 100000 in
theorem qw535 : (Cond.classLink RJ7 2 "java/lang/Object") ∈ LA := LA_t (LT3 (List.mem_of_getElem? (i := 55) rfl)) rfl
set_option maxRecDepth 100000 in
theorem qw536 : (Cond.methodLink RJ7 304 yJ9_min_7cf53) ∈ LA := LA_t (LT3 (List.mem_of_getElem? (i := 56) rfl)) rfl
set_option maxRecDepth 100000 in
theorem qw537 : (Cond.methodLink RJ7 150 arraycopyName) ∈ LA := LA_t (LT3 (List.mem_of_getElem? (i := 57) rfl)) rfl
set_option maxRecDepth 100000 in
theorem qw538 : (Cond.methodLink RJx4a65c 79 yJ9_max_7cf53) ∈ LA := LA_t (LT3 (List.mem_of_getElem? (i := 58) rfl)) rfl
set_option maxRecDepth 100000 in
theorem qw539 : (Cond.classLink RJx4a65c 7 "java/lang/Object") ∈ LA := LA_t (LT3 (List.mem_of_getElem? (i := 59) rfl)) rfl
set_option maxRecDepth 100000 in
theorem qw540 : (Cond.methodLink RX4 55 yX1_layOut) ∈ LA := LA_t (LT3 (List.mem_of_getElem? (i := 60) rfl)) rfl
set_option maxRecDepth 100000 in
theorem qw541 : (Cond.instanceMethod yX1_layOut) ∈ LA := LA_t (LT3 (List.mem_of_getElem? (i := 61) rfl)) rfl
set_option maxRecDepth 100000 in
theorem qw542 : (Cond.selects RX1 yX1_layOut yX1_layOut) ∈ LA := LA_t (LT3 (List.mem_of_getElem? (i := 62) rfl)) rfl
set_option maxRecDepth 100000 in
theorem qw543 : (Cond.code yX1_layOut cX1_layOut 6 none) ∈ LA := LA_t (LT3 (List.mem_of_getElem? (i := 63) rfl)) rfl
set_option maxRecDepth 100000 in
theorem qw544 : (Cond.constant RL 17 (-2000001)) ∈ LA := LA_t (LT3 (List.mem_of_getElem? (i := 64) rfl)) rfl
set_option maxRecDepth 100000 in
theorem qw545 : (Cond.methodLink RL 92 yL_pond) ∈ LA := LA_t (LT3 (List.mem_of_getElem? (i := 65) rfl)) rfl
set_option maxRecDepth 100000 in
theorem qw546 : (Cond.static yL_pond) ∈ LA := LA_t (LT3 (List.mem_of_getElem? (i := 66) rfl)) rfl
set_option maxRecDepth 100000 in
theorem qw547 : (Cond.codeWith yL_pond cL_pond 4 (some .int) [(0, 6, 7, 21), (0, 6, 11, 23)]) ∈ LA := LA_t (LT3 (List.mem_of_getElem? (i := 67) rfl)) rfl
set_option maxRecDepth 100000 in
theorem qw548 : (Cond.classLink RL 21 "java/lang/IndexOutOfBoundsException") ∈ LA := LA_t (LT3 (List.mem_of_getElem? (i := 68) rfl)) rfl
set_option maxRecDepth 100000 in
theorem qw549 : (Cond.classLink RL 23 "java/lang/IllegalStateException") ∈ LA := LA_t (LT3 (List.mem_of_getElem? (i := 69) rfl)) rfl
set_option maxRecDepth 100000 in
theorem qw550 : (Cond.methodLink RL 18 yX4_pond) ∈ LA := LA_t (LT3 (List.mem_of_getElem? (i := 70) rfl)) rfl
set_option maxRecDepth 100000 in
theorem qw551 : (Cond.instanceMethod yX4_pond) ∈ LA := LA_t (LT3 (List.mem_of_getElem? (i := 71) rfl)) rfl
set_option maxRecDepth 100000 in
theorem qw552 : (Cond.selects RX4 yX4_pond yX4_pond) ∈ LA := LA_t (LT3 (List.mem_of_getElem? (i := 72) rfl)) rfl
set_option maxRecDepth 100000 in
theorem qw553 : (Cond.code yX4_pond cX4_pond 6 (some .int)) ∈ LA := LA_t (LT3 (List.mem_of_getElem? (i := 73) rfl)) rfl
set_option maxRecDepth 100000 in
theorem qw554 : (Cond.methodLink RX4 59 yX4_requireCell) ∈ LA := LA_t (LT3 (List.mem_of_getElem? (i := 74) rfl)) rfl
set_option maxRecDepth 100000 in
theorem qw556 : (Cond.instanceMethod yX4_requireCell) ∈ LA := LA_t (LT3 (List.mem_of_getElem? (i := 76) rfl)) rfl
set_option maxRecDepth 100000 in
theorem qw557 : (Cond.code yX4_requireCell cX4_requireCell 3 none) ∈ LA := LA_t (LT3 (List.mem_of_getElem? (i := 77) rfl)) rfl
set_option maxRecDepth 100000 in
theorem qw558 : (Cond.methodLink RX4 348 yX1_hasBlock) ∈ LA := LA_t (LT3 (List.mem_of_getElem? (i := 78) rfl)) rfl
set_option maxRecDepth 100000 in
theorem qw559 : (Cond.instanceMethod yX1_hasBlock) ∈ LA := LA_t (LT3 (List.mem_of_getElem? (i := 79) rfl)) rfl
set_option maxRecDepth 100000 in
theorem qw560 : (Cond.selects RX1 yX1_hasBlock yX1_hasBlock) ∈ LA := LA_t (LT3 (List.mem_of_getElem? (i := 80) rfl)) rfl
set_option maxRecDepth 100000 in
theorem qw561 : (Cond.code yX1_hasBlock cX1_hasBlock 5 (some .boolean)) ∈ LA := LA_t (LT3 (List.mem_of_getElem? (i := 81) rfl)) rfl
set_option maxRecDepth 100000 in
theorem qw562 : (Cond.classLink RX4 130 "java/lang/IndexOutOfBoundsException") ∈ LA := LA_t (LT3 (List.mem_of_getElem? (i := 82) rfl)) rfl
set_option maxRecDepth 100000 in
theorem qw563 : (Cond.instantiable "java/lang/IndexOutOfBoundsException" 6) ∈ LA := LA_t (LT3 (List.mem_of_getElem? (i := 83) rfl)) rfl
set_option maxRecDepth 100000 in
theorem qw564 : (Cond.castable "java/lang/IndexOutOfBoundsException" "java/lang/IndexOutOfBoundsException") ∈ LN := LN_t (LT3 (List.mem_of_getElem? (i := 84) rfl)) rfl
set_option maxRecDepth 100000 in
theorem qw565 : (Cond.selects "java/lang/IndexOutOfBoundsException" ⟨"java/lang/Throwable", "fillInStackTrace", "(I)Ljava/lang/Throwable;"⟩ ⟨"java/lang/Throwable", "fillInStackTrace", "(I)Ljava/lang/Throwable;"⟩) ∈ LA := LA_t (LT3 (List.mem_of_getElem? (i := 85) rfl)) rfl
set_option maxRecDepth 100000 in
theorem qw566 : (Cond.lays "java/lang/IndexOutOfBoundsException" "java/lang/Throwable" "cause" "Ljava/lang/Throwable;") ∈ LA := LA_t (LT3 (List.mem_of_getElem? (i := 86) rfl)) rfl
set_option maxRecDepth 100000 in
theorem qw567 : (Cond.lays "java/lang/IndexOutOfBoundsException" "java/lang/Throwable" "stackTrace" "[Ljava/lang/StackTraceElement;") ∈ LA := LA_t (LT3 (List.mem_of_getElem? (i := 87) rfl)) rfl
set_option maxRecDepth 100000 in
theorem qw568 : (Cond.lays "java/lang/IndexOutOfBoundsException" "java/lang/Throwable" "suppressedExceptions" "Ljava/util/List;") ∈ LA := LA_t (LT3 (List.mem_of_getElem? (i := 88) rfl)) rfl
set_option maxRecDepth 100000 in
theorem qw569 : (Cond.lays "java/lang/IndexOutOfBoundsException" "java/lang/Throwable" "detailMessage" "Ljava/lang/String;") ∈ LA := LA_t (LT3 (List.mem_of_getElem? (i := 89) rfl)) rfl
set_option maxRecDepth 100000 in
theorem qw570 : (Cond.lays "java/lang/IndexOutOfBoundsException" "java/lang/Throwable" "backtrace" "Ljava/lang/Object;") ∈ LA := LA_t (LT3 (List.mem_of_getElem? (i := 90) rfl)) rfl
set_option maxRecDepth 100000 in
theorem qw572 : (Cond.methodLink RX4 134 ⟨"java/lang/IndexOutOfBoundsException", "<init>", "(Ljava/lang/String;)V"⟩) ∈ LA := LA_t (LT3 (List.mem_of_getElem? (i := 92) rfl)) rfl
set_option maxRecDepth 100000 in
theorem qw573 : (Cond.instanceMethod ⟨"java/lang/IndexOutOfBoundsException", "<init>", "(Ljava/lang/String;)V"⟩) ∈ LA := LA_t (LT3 (List.mem_of_getElem? (i := 93) rfl)) rfl
set_option maxRecDepth 100000 in
theorem qw574 : (Cond.code ⟨"java/lang/IndexOutOfBoundsException", "<init>", "(Ljava/lang/String;)V"⟩ prog_15_method_2_code 2 none) ∈ LA := LA_t (LT3 (List.mem_of_getElem? (i := 94) rfl)) rfl
set_option maxRecDepth 100000 in
theorem qw575 : (Cond.methodLink "java/lang/IndexOutOfBoundsException" 7 ⟨"java/lang/RuntimeException", "<init>", "(Ljava/lang/String;)V"⟩) ∈ LA := LA_t (LT3 (List.mem_of_getElem? (i := 95) rfl)) rfl
set_option maxRecDepth 100000 in
theorem qw576 : (Cond.lays "java/lang/IndexOutOfBoundsException" "java/lang/Throwable" "depth" "I") ∈ LA := LA_t (LT3 (List.mem_of_getElem? (i := 96) rfl)) rfl
set_option maxRecDepth 100000 in
theorem qw578 : (Cond.methodLink RX4 63 yX4_cellAt) ∈ LA := LA_t (LT3 (List.mem_of_getElem? (i := 98) rfl)) rfl
set_option maxRecDepth 100000 in
theorem qw579 : (Cond.classLink RX4 74 "java/lang/IllegalStateException") ∈ LA := LA_t (LT3 (List.mem_of_getElem? (i := 99) rfl)) rfl
set_option maxRecDepth 100000 in
theorem qw580 : (Cond.instantiable "java/lang/IllegalStateException" 6) ∈ LA := LA_t (LT3 (List.mem_of_getElem? (i := 100) rfl)) rfl
set_option maxRecDepth 100000 in
theorem qw581 : (Cond.castable "java/lang/IllegalStateException" "java/lang/IllegalStateException") ∈ LN := LN_t (LT3 (List.mem_of_getElem? (i := 101) rfl)) rfl
set_option maxRecDepth 100000 in
theorem qw582 : (Cond.selects "java/lang/IllegalStateException" ⟨"java/lang/Throwable", "fillInStackTrace", "(I)Ljava/lang/Throwable;"⟩ ⟨"java/lang/Throwable", "fillInStackTrace", "(I)Ljava/lang/Throwable;"⟩) ∈ LA := LA_t (LT3 (List.mem_of_getElem? (i := 102) rfl)) rfl
set_option maxRecDepth 100000 in
theorem qw583 : (Cond.lays "java/lang/IllegalStateException" "java/lang/Throwable" "cause" "Ljava/lang/Throwable;") ∈ LA := LA_t (LT3 (List.mem_of_getElem? (i := 103) rfl)) rfl
set_option maxRecDepth 100000 in
theorem qw584 : (Cond.lays "java/lang/IllegalStateException" "java/lang/Throwable" "stackTrace" "[Ljava/lang/StackTraceElement;") ∈ LA := LA_t (LT3 (List.mem_of_getElem? (i := 104) rfl)) rfl
set_option maxRecDepth 100000 in
theorem qw585 : (Cond.lays "java/lang/IllegalStateException" "java/lang/Throwable" "suppressedExceptions" "Ljava/util/List;") ∈ LA := LA_t (LT3 (List.mem_of_getElem? (i := 105) rfl)) rfl
set_option maxRecDepth 100000 in
theorem qw586 : (Cond.lays "java/lang/IllegalStateException" "java/lang/Throwable" "detailMessage" "Ljava/lang/String;") ∈ LA := LA_t (LT3 (List.mem_of_getElem? (i := 106) rfl)) rfl
set_option maxRecDepth 100000 in
theorem qw587 : (Cond.lays "java/lang/IllegalStateException" "java/lang/Throwable" "backtrace" "Ljava/lang/Object;") ∈ LA := LA_t (LT3 (List.mem_of_getElem? (i := 107) rfl)) rfl
set_option maxRecDepth 100000 in
theorem qw589 : (Cond.methodLink RX4 78 ⟨"java/lang/IllegalStateException", "<init>", "(Ljava/lang/String;)V"⟩) ∈ LA := LA_t (LT3 (List.mem_of_getElem? (i := 109) rfl)) rfl
set_option maxRecDepth 100000 in
theorem qw590 : (Cond.instanceMethod ⟨"java/lang/IllegalStateException", "<init>", "(Ljava/lang/String;)V"⟩) ∈ LA := LA_t (LT3 (List.mem_of_getElem? (i := 110) rfl)) rfl
set_option maxRecDepth 100000 in
theorem qw591 : (Cond.code ⟨"java/lang/IllegalStateException", "<init>", "(Ljava/lang/String;)V"⟩ prog_14_method_2_code 2 none) ∈ LA := LA_t (LT3 (List.mem_of_getElem? (i := 111) rfl)) rfl
set_option maxRecDepth 100000 in
theorem qw592 : (Cond.methodLink "java/lang/IllegalStateException" 7 ⟨"java/lang/RuntimeException", "<init>", "(Ljava/lang/String;)V"⟩) ∈ LA := LA_t (LT3 (List.mem_of_getElem? (i := 112) rfl)) rfl
set_option maxRecDepth 100000 in
theorem qw593 : (Cond.lays "java/lang/IllegalStateException" "java/lang/Throwable" "depth" "I") ∈ LA := LA_t (LT3 (List.mem_of_getElem? (i := 113) rfl)) rfl
set_option maxRecDepth 100000 in
theorem qw595 : (Cond.constant RL 25 (-2000002)) ∈ LA := LA_t (LT3 (List.mem_of_getElem? (i := 115) rfl)) rfl
set_option maxRecDepth 100000 in
theorem qw596 : (Cond.methodLink RL 94 yL_wall) ∈ LA := LA_t (LT3 (List.mem_of_getElem? (i := 116) rfl)) rfl
set_option maxRecDepth 100000 in
theorem qw597 : (Cond.static yL_wall) ∈ LA := LA_t (LT3 (List.mem_of_getElem? (i := 117) rfl)) rfl
set_option maxRecDepth 100000 in
theorem qw598 : (Cond.codeWith yL_wall cL_wall 4 (some .int) [(0, 6, 7, 21), (0, 6, 11, 23)]) ∈ LA := LA_t (LT3 (List.mem_of_getElem? (i := 118) rfl)) rfl
set_option maxRecDepth 100000 in
theorem qw599 : (Cond.methodLink RL 26 yX4_wall) ∈ LA := LA_t (LT3 (List.mem_of_getElem? (i := 119) rfl)) rfl
set_option maxRecDepth 100000 in
theorem qw600 : (Cond.instanceMethod yX4_wall) ∈ LA := LA_t (LT3 (List.mem_of_getElem? (i := 120) rfl)) rfl
set_option maxRecDepth 100000 in
theorem qw601 : (Cond.selects RX4 yX4_wall yX4_wall) ∈ LA := LA_t (LT3 (List.mem_of_getElem? (i := 121) rfl)) rfl
set_option maxRecDepth 100000 in
theorem qw602 : (Cond.code yX4_wall cX4_wall 5 (some .int)) ∈ LA := LA_t (LT3 (List.mem_of_getElem? (i := 122) rfl)) rfl
set_option maxRecDepth 100000 in
theorem qw604 : (Cond.methodLink RX4 97 yJ13_bitCount_95d88) ∈ LA := LA_t (LT3 (List.mem_of_getElem? (i := 124) rfl)) rfl
set_option maxRecDepth 100000 in
theorem qw605 : (Cond.methodLink RL 96 yL_lay) ∈ LA := LA_t (LT3 (List.mem_of_getElem? (i := 125) rfl)) rfl
set_option maxRecDepth 100000 in
theorem qw606 : (Cond.static yL_lay) ∈ LA := LA_t (LT3 (List.mem_of_getElem? (i := 126) rfl)) rfl
set_option maxRecDepth 100000 in
theorem qw607 : (Cond.codeWith yL_lay cL_lay 5 (some .int) [(0, 7, 8, 15)]) ∈ LA := LA_t (LT3 (List.mem_of_getElem? (i := 127) rfl)) rfl
set_option maxRecDepth 100000 in
theorem qw608 : (Cond.methodLink RL 29 yX4_lay) ∈ LA := LA_t (LT3 (List.mem_of_getElem? (i := 128) rfl)) rfl
set_option maxRecDepth 100000 in
theorem qw609 : (Cond.instanceMethod yX4_lay) ∈ LA := LA_t (LT3 (List.mem_of_getElem? (i := 129) rfl)) rfl
set_option maxRecDepth 100000 in
theorem qw610 : (Cond.selects RX4 yX4_lay yX4_lay) ∈ LA := LA_t (LT3 (List.mem_of_getElem? (i := 130) rfl)) rfl
set_option maxRecDepth 100000 in
theorem qw611 : (Cond.code yX4_lay cX4_lay 5 (some .int)) ∈ LA := LA_t (LT3 (List.mem_of_getElem? (i := 131) rfl)) rfl
set_option maxRecDepth 100000 in
theorem qw612 : (Cond.methodLink RX4 103 yX4_requireTurn) ∈ LA := LA_t (LT3 (List.mem_of_getElem? (i := 132) rfl)) rfl
set_option maxRecDepth 100000 in
theorem qw613 : (Cond.static yX4_requireTurn) ∈ LA := LA_t (LT3 (List.mem_of_getElem? (i := 133) rfl)) rfl
set_option maxRecDepth 100000 in
theorem qw614 : (Cond.code yX4_requireTurn cX4_requireTurn 1 none) ∈ LA := LA_t (LT3 (List.mem_of_getElem? (i := 134) rfl)) rfl
set_option maxRecDepth 100000 in
theorem qw616 : (Cond.methodLink RX4 107 yX1_whyRefused) ∈ LA := LA_t (LT3 (List.mem_of_getElem? (i := 136) rfl)) rfl
set_option maxRecDepth 100000 in
theorem qw617 : (Cond.instanceMethod yX1_whyRefused) ∈ LA := LA_t (LT3 (List.mem_of_getElem? (i := 137) rfl)) rfl
set_option maxRecDepth 100000 in
theorem qw618 : (Cond.selects RX1 yX1_whyRefused yX1_whyRefused) ∈ LA := LA_t (LT3 (List.mem_of_getElem? (i := 138) rfl)) rfl
set_option maxRecDepth 100000 in
theorem qw619 : (Cond.code yX1_whyRefused cX1_whyRefused 6 (some .int)) ∈ LA := LA_t (LT3 (List.mem_of_getElem? (i := 139) rfl)) rfl
set_option maxRecDepth 100000 in
theorem qw620 : (Cond.methodLink RX1 62 yX1_hasBlock) ∈ LA := LA_t (LT3 (List.mem_of_getElem? (i := 140) rfl)) rfl
set_option maxRecDepth 100000 in
theorem qw621 : (Cond.methodLinkNest RX1 66 yX4_cellsOf RX4) ∈ LN := LN_t (LT3 (List.mem_of_getElem? (i := 141) rfl)) rfl
set_option maxRecDepth 100000 in
theorem qw622 : (Cond.methodLink RX4 111 yX1_putTriple) ∈ LA := LA_t (LT3 (List.mem_of_getElem? (i := 142) rfl)) rfl
set_option maxRecDepth 100000 in
theorem qw623 : (Cond.instanceMethod yX1_putTriple) ∈ LA := LA_t (LT3 (List.mem_of_getElem? (i := 143) rfl)) rfl
set_option maxRecDepth 100000 in
theorem qw624 : (Cond.selects RX1 yX1_putTriple yX1_putTriple) ∈ LA := LA_t (LT3 (List.mem_of_getElem? (i := 144) rfl)) rfl
set_option maxRecDepth 100000 in
theorem qw625 : (Cond.code yX1_putTriple cX1_putTriple 4 none) ∈ LA := LA_t (LT3 (List.mem_of_getElem? (i := 145) rfl)) rfl
set_option maxRecDepth 100000 in
theorem qw626 : (Cond.methodLinkNest RX1 70 yX4_nameOf RX4) ∈ LN := LN_t (LT3 (List.mem_of_getElem? (i := 146) rfl)) rfl
set_option maxRecDepth 100000 in
theorem qw627 : (Cond.static yX4_nameOf) ∈ LA := LA_t (LT3 (List.mem_of_getElem? (i := 147) rfl)) rfl
set_option maxRecDepth 100000 in
theorem qw628 : (Cond.code yX4_nameOf cX4_nameOf 3 (some .int)) ∈ LA := LA_t (LT3 (List.mem_of_getElem? (i := 148) rfl)) rfl
set_option maxRecDepth 100000 in
theorem qw629 : (Cond.methodLink RL 99 yL_lift) ∈ LA := LA_t (LT3 (List.mem_of_getElem? (i := 149) rfl)) rfl
set_option maxRecDepth 100000 in
theorem qw630 : (Cond.static yL_lift) ∈ LA := LA_t (LT3 (List.mem_of_getElem? (i := 150) rfl)) rfl
set_option maxRecDepth 100000 in
theorem qw631 : (Cond.codeWith yL_lift cL_lift 4 (some .int) [(0, 6, 7, 21), (0, 6, 11, 23)]) ∈ LA := LA_t (LT3 (List.mem_of_getElem? (i := 151) rfl)) rfl
set_option maxRecDepth 100000 in
theorem qw632 : (Cond.methodLink RL 33 yX4_lift) ∈ LA := LA_t (LT3 (List.mem_of_getElem? (i := 152) rfl)) rfl
set_option maxRecDepth 100000 in
theorem qw633 : (Cond.instanceMethod yX4_lift) ∈ LA := LA_t (LT3 (List.mem_of_getElem? (i := 153) rfl)) rfl
set_option maxRecDepth 100000 in
theorem qw634 : (Cond.selects RX4 yX4_lift yX4_lift) ∈ LA := LA_t (LT3 (List.mem_of_getElem? (i := 154) rfl)) rfl
set_option maxRecDepth 100000 in
theorem qw635 : (Cond.code yX4_lift cX4_lift 4 (some .int)) ∈ LA := LA_t (LT3 (List.mem_of_getElem? (i := 155) rfl)) rfl
set_option maxRecDepth 100000 in
theorem qw636 : (Cond.methodLink RX4 118 yX1_tripleOver) ∈ LA := LA_t (LT3 (List.mem_of_getElem? (i := 156) rfl)) rfl
set_option maxRecDepth 100000 in
theorem qw637 : (Cond.instanceMethod yX1_tripleOver) ∈ LA := LA_t (LT3 (List.mem_of_getElem? (i := 157) rfl)) rfl
set_option maxRecDepth 100000 in
theorem qw638 : (Cond.selects RX1 yX1_tripleOver yX1_tripleOver) ∈ LA := LA_t (LT3 (List.mem_of_getElem? (i := 158) rfl)) rfl
set_option maxRecDepth 100000 in
theorem qw639 : (Cond.code yX1_tripleOver cX1_tripleOver 4 (some .int)) ∈ LA := LA_t (LT3 (List.mem_of_getElem? (i := 159) rfl)) rfl
set_option maxRecDepth 100000 in
theorem qw640 : (Cond.methodLink RX1 74 yX1_tripleCells) ∈ LA := LA_t (LT3 (List.mem_of_getElem? (i := 160) rfl)) rfl
set_option maxRecDepth 100000 in
theorem qw642 : (Cond.instanceMethod yX1_tripleCells) ∈ LA := LA_t (LT3 (List.mem_of_getElem? (i := 162) rfl)) rfl
set_option maxRecDepth 100000 in
theorem qw643 : (Cond.code yX1_tripleCells cX1_tripleCells 3 (some .long)) ∈ LA := LA_t (LT3 (List.mem_of_getElem? (i := 163) rfl)) rfl
set_option maxRecDepth 100000 in
theorem qw644 : (Cond.methodLink RX1 78 yX1_tripleName) ∈ LA := LA_t (LT3 (List.mem_of_getElem? (i := 164) rfl)) rfl
set_option maxRecDepth 100000 in
theorem qw645 : (Cond.instanceMethod yX1_tripleName) ∈ LA := LA_t (LT3 (List.mem_of_getElem? (i := 165) rfl)) rfl
set_option maxRecDepth 100000 in
theorem qw646 : (Cond.selects RX1 yX1_tripleName yX1_tripleName) ∈ LA := LA_t (LT3 (List.mem_of_getElem? (i := 166) rfl)) rfl
set_option maxRecDepth 100000 in
theorem qw647 : (Cond.code yX1_tripleName cX1_tripleName 2 (some .int)) ∈ LA := LA_t (LT3 (List.mem_of_getElem? (i := 167) rfl)) rfl
set_option maxRecDepth 100000 in
theorem qw648 : (Cond.methodLinkNest RX1 82 yX4_columnOf RX4) ∈ LN := LN_t (LT3 (List.mem_of_getElem? (i := 168) rfl)) rfl
set_option maxRecDepth 100000 in
theorem qw649 : (Cond.static yX4_columnOf) ∈ LA := LA_t (LT3 (List.mem_of_getElem? (i := 169) rfl)) rfl
set_option maxRecDepth 100000 in
theorem qw650 : (Cond.code yX4_columnOf cX4_columnOf 1 (some .int)) ∈ LA := LA_t (LT3 (List.mem_of_getElem? (i := 170) rfl)) rfl
set_option maxRecDepth 100000 in
theorem qw651 : (Cond.methodLinkNest RX1 85 yX4_rowOf RX4) ∈ LN := LN_t (LT3 (List.mem_of_getElem? (i := 171) rfl)) rfl
set_option maxRecDepth 100000 in
theorem qw652 : (Cond.static yX4_rowOf) ∈ LA := LA_t (LT3 (List.mem_of_getElem? (i := 172) rfl)) rfl
set_option maxRecDepth 100000 in
theorem qw653 : (Cond.code yX4_rowOf cX4_rowOf 1 (some .int)) ∈ LA := LA_t (LT3 (List.mem_of_getElem? (i := 173) rfl)) rfl
set_option maxRecDepth 100000 in
theorem qw654 : (Cond.methodLinkNest RX1 88 yX4_turnOf RX4) ∈ LN := LN_t (LT3 (List.mem_of_getElem? (i := 174) rfl)) rfl
set_option maxRecDepth 100000 in
theorem qw655 : (Cond.static yX4_turnOf) ∈ LA := LA_t (LT3 (List.mem_of_getElem? (i := 175) rfl)) rfl
set_option maxRecDepth 100000 in
theorem qw656 : (Cond.code yX4_turnOf cX4_turnOf 1 (some .int)) ∈ LA := LA_t (LT3 (List.mem_of_getElem? (i := 176) rfl)) rfl
set_option maxRecDepth 100000 in
theorem qw658 : (Cond.methodLink RX4 123 yX1_takeTriple) ∈ LA := LA_t (LT3 (List.mem_of_getElem? (i := 178) rfl)) rfl
set_option maxRecDepth 100000 in
theorem qw659 : (Cond.instanceMethod yX1_takeTriple) ∈ LA := LA_t (LT3 (List.mem_of_getElem? (i := 179) rfl)) rfl
set_option maxRecDepth 100000 in
theorem qw660 : (Cond.selects RX1 yX1_takeTriple yX1_takeTriple) ∈ LA := LA_t (LT3 (List.mem_of_getElem? (i := 180) rfl)) rfl
set_option maxRecDepth 100000 in
theorem qw661 : (Cond.code yX1_takeTriple cX1_takeTriple 3 none) ∈ LA := LA_t (LT3 (List.mem_of_getElem? (i := 181) rfl)) rfl
set_option maxRecDepth 100000 in
theorem qw662 : (Cond.methodLink RL 101 yL_flip) ∈ LA := LA_t (LT3 (List.mem_of_getElem? (i := 182) rfl)) rfl
set_option maxRecDepth 100000 in
theorem qw663 : (Cond.static yL_flip) ∈ LA := LA_t (LT3 (List.mem_of_getElem? (i := 183) rfl)) rfl
set_option maxRecDepth 100000 in
theorem qw664 : (Cond.codeWith yL_flip cL_flip 5 (some .int) [(0, 7, 8, 21), (0, 7, 13, 23)]) ∈ LA := LA_t (LT3 (List.mem_of_getElem? (i := 184) rfl)) rfl
set_option maxRecDepth 100000 in
theorem qw665 : (Cond.methodLink RL 36 yX4_flip) ∈ LA := LA_t (LT3 (List.mem_of_getElem? (i := 185) rfl)) rfl
set_option maxRecDepth 100000 in
theorem qw666 : (Cond.instanceMethod yX4_flip) ∈ LA := LA_t (LT3 (List.mem_of_getElem? (i := 186) rfl)) rfl
set_option maxRecDepth 100000 in
theorem qw667 : (Cond.selects RX4 yX4_flip yX4_flip) ∈ LA := LA_t (LT3 (List.mem_of_getElem? (i := 187) rfl)) rfl
set_option maxRecDepth 100000 in
theorem qw668 : (Cond.code yX4_flip cX4_flip 4 (some .int)) ∈ LA := LA_t (LT3 (List.mem_of_getElem? (i := 188) rfl)) rfl
set_option maxRecDepth 100000 in
theorem qw669 : (Cond.methodLink RX4 126 yX1_hasFlipBlock) ∈ LA := LA_t (LT3 (List.mem_of_getElem? (i := 189) rfl)) rfl
set_option maxRecDepth 100000 in
theorem qw670 : (Cond.instanceMethod yX1_hasFlipBlock) ∈ LA := LA_t (LT3 (List.mem_of_getElem? (i := 190) rfl)) rfl
set_option maxRecDepth 100000 in
theorem qw671 : (Cond.selects RX1 yX1_hasFlipBlock yX1_hasFlipBlock) ∈ LA := LA_t (LT3 (List.mem_of_getElem? (i := 191) rfl)) rfl
set_option maxRecDepth 100000 in
theorem qw672 : (Cond.code yX1_hasFlipBlock cX1_hasFlipBlock 4 (some .boolean)) ∈ LA := LA_t (LT3 (List.mem_of_getElem? (i := 192) rfl)) rfl
set_option maxRecDepth 100000 in
theorem qw674 : (Cond.methodLink RX4 135 yX1_isFlippable) ∈ LA := LA_t (LT3 (List.mem_of_getElem? (i := 194) rfl)) rfl
set_option maxRecDepth 100000 in
theorem qw675 : (Cond.instanceMethod yX1_isFlippable) ∈ LA := LA_t (LT3 (List.mem_of_getElem? (i := 195) rfl)) rfl
set_option maxRecDepth 100000 in
theorem qw676 : (Cond.selects RX1 yX1_isFlippable yX1_isFlippable) ∈ LA := LA_t (LT3 (List.mem_of_getElem? (i := 196) rfl)) rfl
set_option maxRecDepth 100000 in
theorem qw677 : (Cond.code yX1_isFlippable cX1_isFlippable 8 (some .boolean)) ∈ LA := LA_t (LT3 (List.mem_of_getElem? (i := 197) rfl)) rfl
set_option maxRecDepth 100000 in
theorem qw678 : (Cond.methodLinkNest RX1 114 yX4_cellAt RX4) ∈ LN := LN_t (LT3 (List.mem_of_getElem? (i := 198) rfl)) rfl
set_option maxRecDepth 100000 in
theorem qw679 : (Cond.methodLink RX1 118 yX1_tripleOver) ∈ LA := LA_t (LT3 (List.mem_of_getElem? (i := 199) rfl)) rfl
set_option maxRecDepth 100000 in
theorem qw680 : (Cond.methodLink RX1 122 yX1_lastFlipCell) ∈ LA := LA_t (LT3 (List.mem_of_getElem? (i := 200) rfl)) rfl
set_option maxRecDepth 100000 in
theorem qw681 : (Cond.static yX1_lastFlipCell) ∈ LA := LA_t (LT3 (List.mem_of_getElem? (i := 201) rfl)) rfl
set_option maxRecDepth 100000 in
theorem qw682 : (Cond.code yX1_lastFlipCell cX1_lastFlipCell 3 (some .long)) ∈ LA := LA_t (LT3 (List.mem_of_getElem? (i := 202) rfl)) rfl
set_option maxRecDepth 100000 in
theorem qw684 : (Cond.methodLink RX4 140 yX1_flipBlock) ∈ LA := LA_t (LT3 (List.mem_of_getElem? (i := 204) rfl)) rfl
set_option maxRecDepth 100000 in
theorem qw685 : (Cond.instanceMethod yX1_flipBlock) ∈ LA := LA_t (LT3 (List.mem_of_getElem? (i := 205) rfl)) rfl
set_option maxRecDepth 100000 in
theorem qw686 : (Cond.selects RX1 yX1_flipBlock yX1_flipBlock) ∈ LA := LA_t (LT3 (List.mem_of_getElem? (i := 206) rfl)) rfl
set_option maxRecDepth 100000 in
theorem qw687 : (Cond.code yX1_flipBlock cX1_flipBlock 7 none) ∈ LA := LA_t (LT3 (List.mem_of_getElem? (i := 207) rfl)) rfl
set_option maxRecDepth 100000 in
theorem qw688 : (Cond.methodLink RX1 126 yJ9_max_7cf53) ∈ LA := LA_t (LT3 (List.mem_of_getElem? (i := 208) rfl)) rfl
set_option maxRecDepth 100000 in
theorem qw689 : (Cond.methodLink RX1 131 yX1_takeTriple) ∈ LA := LA_t (LT3 (List.mem_of_getElem? (i := 209) rfl)) rfl
set_option maxRecDepth 100000 in
theorem qw690 : (Cond.methodLink RX1 135 yJ9_min_7cf53) ∈ LA := LA_t (LT3 (List.mem_of_getElem? (i := 210) rfl)) rfl
set_option maxRecDepth 100000 in
theorem qw691 : (Cond.methodLink RX1 138 yX1_putTriple) ∈ LA := LA_t (LT3 (List.mem_of_getElem? (i := 211) rfl)) rfl
set_option maxRecDepth 100000 in
theorem qw692 : (Cond.methodLink RL 160 yL_append) ∈ LA := LA_t (LT3 (List.mem_of_getElem? (i := 212) rfl)) rfl
set_option maxRecDepth 100000 in
theorem qw693 : (Cond.static yL_append) ∈ LA := LA_t (LT3 (List.mem_of_getElem? (i := 213) rfl)) rfl
set_option maxRecDepth 100000 in
theorem qw694 : (Cond.codeWith yL_append cL_append 3 (some .int) [(0, 5, 6, 15), (0, 5, 10, 23)]) ∈ LA := LA_t (LT3 (List.mem_of_getElem? (i := 214) rfl)) rfl
set_option maxRecDepth 100000 in
theorem qw695 : (Cond.methodLink RL 47 yX4_append) ∈ LA := LA_t (LT3 (List.mem_of_getElem? (i := 215) rfl)) rfl
set_option maxRecDepth 100000 in
theorem qw696 : (Cond.instanceMethod yX4_append) ∈ LA := LA_t (LT3 (List.mem_of_getElem? (i := 216) rfl)) rfl
set_option maxRecDepth 100000 in
theorem qw697 : (Cond.selects RX4 yX4_append yX4_append) ∈ LA := LA_t (LT3 (List.mem_of_getElem? (i := 217) rfl)) rfl
set_option maxRecDepth 100000 in
theorem qw698 : (Cond.code yX4_append cX4_append 2 (some .int)) ∈ LA := LA_t (LT3 (List.mem_of_getElem? (i := 218) rfl)) rfl
set_option maxRecDepth 100000 in
theorem qw700 : (Cond.methodLink RX4 173 yX0_isFull) ∈ LA := LA_t (LT3 (List.mem_of_getElem? (i := 220) rfl)) rfl
set_option maxRecDepth 100000 in
theorem qw701 : (Cond.instanceMethod yX0_isFull) ∈ LA := LA_t (LT3 (List.mem_of_getElem? (i := 221) rfl)) rfl
set_option maxRecDepth 100000 in
theorem qw702 : (Cond.selects RX0 yX0_isFull yX0_isFull) ∈ LA := LA_t (LT3 (List.mem_of_getElem? (i := 222) rfl)) rfl
set_option maxRecDepth 100000 in
theorem qw703 : (Cond.code yX0_isFull cX0_isFull 1 (some .boolean)) ∈ LA := LA_t (LT3 (List.mem_of_getElem? (i := 223) rfl)) rfl
set_option maxRecDepth 100000 in
theorem qw705 : (Cond.methodLink RX4 178 yX0_add) ∈ LA := LA_t (LT3 (List.mem_of_getElem? (i := 225) rfl)) rfl
set_option maxRecDepth 100000 in
theorem qw706 : (Cond.instanceMethod yX0_add) ∈ LA := LA_t (LT3 (List.mem_of_getElem? (i := 226) rfl)) rfl
set_option maxRecDepth 100000 in
theorem qw707 : (Cond.selects RX0 yX0_add yX0_add) ∈ LA := LA_t (LT3 (List.mem_of_getElem? (i := 227) rfl)) rfl
set_option maxRecDepth 100000 in
theorem qw708 : (Cond.code yX0_add cX0_add 2 none) ∈ LA := LA_t (LT3 (List.mem_of_getElem? (i := 228) rfl)) rfl
set_option maxRecDepth 100000 in
theorem qw709 : (Cond.methodLink RL 138 yL_load) ∈ LA := LA_t (LT3 (List.mem_of_getElem? (i := 229) rfl)) rfl
set_option maxRecDepth 100000 in
theorem qw710 : (Cond.static yL_load) ∈ LA := LA_t (LT3 (List.mem_of_getElem? (i := 230) rfl)) rfl
set_option maxRecDepth 100000 in
theorem qw711 : (Cond.codeWith yL_load cL_load 2 (some .int) [(0, 4, 5, 15)]) ∈ LA := LA_t (LT3 (List.mem_of_getElem? (i := 231) rfl)) rfl
set_option maxRecDepth 100000 in
theorem qw712 : (Cond.methodLink RL 51 yX4_load) ∈ LA := LA_t (LT3 (List.mem_of_getElem? (i := 232) rfl)) rfl
set_option maxRecDepth 100000 in
theorem qw713 : (Cond.instanceMethod yX4_load) ∈ LA := LA_t (LT3 (List.mem_of_getElem? (i := 233) rfl)) rfl
set_option maxRecDepth 100000 in
theorem qw714 : (Cond.selects RX4 yX4_load yX4_load) ∈ LA := LA_t (LT3 (List.mem_of_getElem? (i := 234) rfl)) rfl
set_option maxRecDepth 100000 in
theorem qw715 : (Cond.code yX4_load cX4_load 2 (some .int)) ∈ LA := LA_t (LT3 (List.mem_of_getElem? (i := 235) rfl)) rfl
set_option maxRecDepth 100000 in
theorem qw716 : (Cond.methodLink RX4 191 yX3_isWhole) ∈ LA := LA_t (LT3 (List.mem_of_getElem? (i := 236) rfl)) rfl
set_option maxRecDepth 100000 in
theorem qw717 : (Cond.instanceMethod yX3_isWhole) ∈ LA := LA_t (LT3 (List.mem_of_getElem? (i := 237) rfl)) rfl
set_option maxRecDepth 100000 in
theorem qw718 : (Cond.selects RX3 yX3_isWhole yX3_isWhole) ∈ LA := LA_t (LT3 (List.mem_of_getElem? (i := 238) rfl)) rfl
set_option maxRecDepth 100000 in
theorem qw719 : (Cond.code yX3_isWhole cX3_isWhole 1 (some .boolean)) ∈ LA := LA_t (LT3 (List.mem_of_getElem? (i := 239) rfl)) rfl
set_option maxRecDepth 100000 in
theorem qw721 : (Cond.methodLink RL 111 yL_keep) ∈ LA := LA_t (LT4 (List.mem_of_getElem? (i := 1) rfl)) rfl
set_option maxRecDepth 100000 in
theorem qw722 : (Cond.static yL_keep) ∈ LA := LA_t (LT4 (List.mem_of_getElem? (i := 2) rfl)) rfl
set_option maxRecDepth 100000 in
theorem qw723 : (Cond.codeWith yL_keep cL_keep 3 (some .int) [(0, 5, 6, 15)]) ∈ LA := LA_t (LT4 (List.mem_of_getElem? (i := 3) rfl)) rfl
set_option maxRecDepth 100000 in
theorem qw724 : (Cond.methodLink RL 54 yX4_keep) ∈ LA := LA_t (LT4 (List.mem_of_getElem? (i := 4) rfl)) rfl
set_option maxRecDepth 100000 in
theorem qw725 : (Cond.instanceMethod yX4_keep) ∈ LA := LA_t (LT4 (List.mem_of_getElem? (i := 5) rfl)) rfl
set_option maxRecDepth 100000 in
theorem qw726 : (Cond.selects RX4 yX4_keep yX4_keep) ∈ LA := LA_t (LT4 (List.mem_of_getElem? (i := 6) rfl)) rfl
set_option maxRecDepth 100000 in
theorem qw727 : (Cond.code yX4_keep cX4_keep 2 (some .int)) ∈ LA := LA_t (LT4 (List.mem_of_getElem? (i := 7) rfl)) rfl
set_option maxRecDepth 100000 in
theorem qw728 : (Cond.methodLink RX4 204 yX4_requireSlot) ∈ LA := LA_t (LT4 (List.mem_of_getElem? (i := 8) rfl)) rfl
set_option maxRecDepth 100000 in
theorem qw730 : (Cond.instanceMethod yX4_requireSlot) ∈ LA := LA_t (LT4 (List.mem_of_getElem? (i := 10) rfl)) rfl
set_option maxRecDepth 100000 in
theorem qw731 : (Cond.code yX4_requireSlot cX4_requireSlot 2 none) ∈ LA := LA_t (LT4 (List.mem_of_getElem? (i := 11) rfl)) rfl
set_option maxRecDepth 100000 in
theorem qw733 : (Cond.methodLink RL 109 yL_goBack) ∈ LA := LA_t (LT4 (List.mem_of_getElem? (i := 13) rfl)) rfl
set_option maxRecDepth 100000 in
theorem qw734 : (Cond.static yL_goBack) ∈ LA := LA_t (LT4 (List.mem_of_getElem? (i := 14) rfl)) rfl
set_option maxRecDepth 100000 in
theorem qw735 : (Cond.codeWith yL_goBack cL_goBack 3 (some .int) [(0, 5, 6, 15), (0, 5, 10, 23)]) ∈ LA := LA_t (LT4 (List.mem_of_getElem? (i := 15) rfl)) rfl
set_option maxRecDepth 100000 in
theorem qw736 : (Cond.methodLink RL 57 yX4_goBack) ∈ LA := LA_t (LT4 (List.mem_of_getElem? (i := 16) rfl)) rfl
set_option maxRecDepth 100000 in
theorem qw737 : (Cond.instanceMethod yX4_goBack) ∈ LA := LA_t (LT4 (List.mem_of_getElem? (i := 17) rfl)) rfl
set_option maxRecDepth 100000 in
theorem qw738 : (Cond.selects RX4 yX4_goBack yX4_goBack) ∈ LA := LA_t (LT4 (List.mem_of_getElem? (i := 18) rfl)) rfl
set_option maxRecDepth 100000 in
theorem qw739 : (Cond.code yX4_goBack cX4_goBack 3 (some .int)) ∈ LA := LA_t (LT4 (List.mem_of_getElem? (i := 19) rfl)) rfl
set_option maxRecDepth 100000 in
theorem qw741 : (Cond.methodLink RL 136 yL_undo) ∈ LA := LA_t (LT4 (List.mem_of_getElem? (i := 21) rfl)) rfl
set_option maxRecDepth 100000 in
theorem qw742 : (Cond.static yL_undo) ∈ LA := LA_t (LT4 (List.mem_of_getElem? (i := 22) rfl)) rfl
set_option maxRecDepth 100000 in
theorem qw743 : (Cond.codeWith yL_undo cL_undo 2 (some .int) [(0, 4, 5, 23)]) ∈ LA := LA_t (LT4 (List.mem_of_getElem? (i := 23) rfl)) rfl
set_option maxRecDepth 100000 in
theorem qw744 : (Cond.methodLink RL 60 yX4_undo) ∈ LA := LA_t (LT4 (List.mem_of_getElem? (i := 24) rfl)) rfl
set_option maxRecDepth 100000 in
theorem qw745 : (Cond.instanceMethod yX4_undo) ∈ LA := LA_t (LT4 (List.mem_of_getElem? (i := 25) rfl)) rfl
set_option maxRecDepth 100000 in
theorem qw746 : (Cond.selects RX4 yX4_undo yX4_undo) ∈ LA := LA_t (LT4 (List.mem_of_getElem? (i := 26) rfl)) rfl
set_option maxRecDepth 100000 in
theorem qw747 : (Cond.code yX4_undo cX4_undo 2 (some .int)) ∈ LA := LA_t (LT4 (List.mem_of_getElem? (i := 27) rfl)) rfl
set_option maxRecDepth 100000 in
theorem qw749 : (Cond.methodLink RX4 219 yJx4a65c_get_915e3) ∈ LA := LA_t (LT4 (List.mem_of_getElem? (i := 29) rfl)) rfl
set_option maxRecDepth 100000 in
theorem qw750 : (Cond.instanceMethod yJx4a65c_get_915e3) ∈ LA := LA_t (LT4 (List.mem_of_getElem? (i := 30) rfl)) rfl
set_option maxRecDepth 100000 in
theorem qw751 : (Cond.selects RJx4a65c yJx4a65c_get_915e3 yJx4a65c_get_915e3) ∈ LA := LA_t (LT4 (List.mem_of_getElem? (i := 31) rfl)) rfl
set_option maxRecDepth 100000 in
theorem qw752 : (Cond.code yJx4a65c_get_915e3 cJx4a65c_get_915e3 2 (some (.object "java/lang/Object"))) ∈ LA := LA_t (LT4 (List.mem_of_getElem? (i := 32) rfl)) rfl
set_option maxRecDepth 100000 in
theorem qw753 : (Cond.methodLink RJx4a65c 123 yJx4a65c_elementData_915e3) ∈ LA := LA_t (LT4 (List.mem_of_getElem? (i := 33) rfl)) rfl
set_option maxRecDepth 100000 in
theorem qw754 : (Cond.instanceMethod yJx4a65c_elementData_915e3) ∈ LA := LA_t (LT4 (List.mem_of_getElem? (i := 34) rfl)) rfl
set_option maxRecDepth 100000 in
theorem qw755 : (Cond.selects RJx4a65c yJx4a65c_elementData_915e3 yJx4a65c_elementData_915e3) ∈ LA := LA_t (LT4 (List.mem_of_getElem? (i := 35) rfl)) rfl
set_option maxRecDepth 100000 in
theorem qw756 : (Cond.code yJx4a65c_elementData_915e3 cJx4a65c_elementData_915e3 2 (some (.object "java/lang/Object"))) ∈ LA := LA_t (LT4 (List.mem_of_getElem? (i := 36) rfl)) rfl
set_option maxRecDepth 100000 in
theorem qw757 : (Cond.methodLink RL 113 yL_cellOf) ∈ LA := LA_t (LT4 (List.mem_of_getElem? (i := 37) rfl)) rfl
set_option maxRecDepth 100000 in
theorem qw758 : (Cond.static yL_cellOf) ∈ LA := LA_t (LT4 (List.mem_of_getElem? (i := 38) rfl)) rfl
set_option maxRecDepth 100000 in
theorem qw759 : (Cond.codeWith yL_cellOf cL_cellOf 5 (some .int) [(0, 7, 8, 21), (0, 7, 13, 15)]) ∈ LA := LA_t (LT4 (List.mem_of_getElem? (i := 39) rfl)) rfl
set_option maxRecDepth 100000 in
theorem qw760 : (Cond.methodLink RL 63 yX4_cell) ∈ LA := LA_t (LT4 (List.mem_of_getElem? (i := 40) rfl)) rfl
set_option maxRecDepth 100000 in
theorem qw761 : (Cond.instanceMethod yX4_cell) ∈ LA := LA_t (LT4 (List.mem_of_getElem? (i := 41) rfl)) rfl
set_option maxRecDepth 100000 in
theorem qw762 : (Cond.selects RX4 yX4_cell yX4_cell) ∈ LA := LA_t (LT4 (List.mem_of_getElem? (i := 42) rfl)) rfl
set_option maxRecDepth 100000 in
theorem qw763 : (Cond.code yX4_cell cX4_cell 4 (some .int)) ∈ LA := LA_t (LT4 (List.mem_of_getElem? (i := 43) rfl)) rfl
set_option maxRecDepth 100000 in
theorem qw764 : (Cond.methodLink RX4 226 yX4_requireProperty) ∈ LA := LA_t (LT4 (List.mem_of_getElem? (i := 44) rfl)) rfl
set_option maxRecDepth 100000 in
theorem qw765 : (Cond.static yX4_requireProperty) ∈ LA := LA_t (LT4 (List.mem_of_getElem? (i := 45) rfl)) rfl
set_option maxRecDepth 100000 in
theorem qw766 : (Cond.code yX4_requireProperty cX4_requireProperty 1 none) ∈ LA := LA_t (LT4 (List.mem_of_getElem? (i := 46) rfl)) rfl
set_option maxRecDepth 100000 in
theorem qw768 : (Cond.methodLink RX4 229 yX1_kindOf) ∈ LA := LA_t (LT4 (List.mem_of_getElem? (i := 48) rfl)) rfl
set_option maxRecDepth 100000 in
theorem qw769 : (Cond.instanceMethod yX1_kindOf) ∈ LA := LA_t (LT4 (List.mem_of_getElem? (i := 49) rfl)) rfl
set_option maxRecDepth 100000 in
theorem qw770 : (Cond.selects RX1 yX1_kindOf yX1_kindOf) ∈ LA := LA_t (LT4 (List.mem_of_getElem? (i := 50) rfl)) rfl
set_option maxRecDepth 100000 in
theorem qw771 : (Cond.code yX1_kindOf cX1_kindOf 3 (some .int)) ∈ LA := LA_t (LT4 (List.mem_of_getElem? (i := 51) rfl)) rfl
set_option maxRecDepth 100000 in
theorem qw772 : (Cond.methodLink RX4 232 yX1_coverCount) ∈ LA := LA_t (LT4 (List.mem_of_getElem? (i := 52) rfl)) rfl
set_option maxRecDepth 100000 in
theorem qw773 : (Cond.instanceMethod yX1_coverCount) ∈ LA := LA_t (LT4 (List.mem_of_getElem? (i := 53) rfl)) rfl
set_option maxRecDepth 100000 in
theorem qw774 : (Cond.selects RX1 yX1_coverCount yX1_coverCount) ∈ LA := LA_t (LT4 (List.mem_of_getElem? (i := 54) rfl)) rfl
set_option maxRecDepth 100000 in
theorem qw775 : (Cond.code yX1_coverCount cX1_coverCount 4 (some .int)) ∈ LA := LA_t (LT4 (List.mem_of_getElem? (i := 55) rfl)) rfl
set_option maxRecDepth 100000 in
theorem qw776 : (Cond.methodLink RX1 104 yX1_couldCover) ∈ LA := LA_t (LT4 (List.mem_of_getElem? (i := 56) rfl)) rfl
set_option maxRecDepth 100000 in
theorem qw778 : (Cond.instanceMethod yX1_couldCover) ∈ LA := LA_t (LT4 (List.mem_of_getElem? (i := 58) rfl)) rfl
set_option maxRecDepth 100000 in
theorem qw779 : (Cond.code yX1_couldCover cX1_couldCover 6 (some .boolean)) ∈ LA := LA_t (LT4 (List.mem_of_getElem? (i := 59) rfl)) rfl
set_option maxRecDepth 100000 in
theorem qw780 : (Cond.methodLink RX1 94 yX1_coverX) ∈ LA := LA_t (LT4 (List.mem_of_getElem? (i := 60) rfl)) rfl
set_option maxRecDepth 100000 in
theorem qw781 : (Cond.static yX1_coverX) ∈ LA := LA_t (LT4 (List.mem_of_getElem? (i := 61) rfl)) rfl
set_option maxRecDepth 100000 in
theorem qw782 : (Cond.code yX1_coverX cX1_coverX 2 (some .int)) ∈ LA := LA_t (LT4 (List.mem_of_getElem? (i := 62) rfl)) rfl
set_option maxRecDepth 100000 in
theorem qw783 : (Cond.methodLink RX1 97 yX1_coverY) ∈ LA := LA_t (LT4 (List.mem_of_getElem? (i := 63) rfl)) rfl
set_option maxRecDepth 100000 in
theorem qw784 : (Cond.static yX1_coverY) ∈ LA := LA_t (LT4 (List.mem_of_getElem? (i := 64) rfl)) rfl
set_option maxRecDepth 100000 in
theorem qw785 : (Cond.code yX1_coverY cX1_coverY 2 (some .int)) ∈ LA := LA_t (LT4 (List.mem_of_getElem? (i := 65) rfl)) rfl
set_option maxRecDepth 100000 in
theorem qw786 : (Cond.methodLink RX1 91 yX1_whyRefused) ∈ LA := LA_t (LT4 (List.mem_of_getElem? (i := 66) rfl)) rfl
set_option maxRecDepth 100000 in
theorem qw787 : (Cond.methodLinkNest RX1 100 yX4_holds RX4) ∈ LN := LN_t (LT4 (List.mem_of_getElem? (i := 67) rfl)) rfl
set_option maxRecDepth 100000 in
theorem qw788 : (Cond.methodLink RL 116 yL_row) ∈ LA := LA_t (LT4 (List.mem_of_getElem? (i := 68) rfl)) rfl
set_option maxRecDepth 100000 in
theorem qw789 : (Cond.static yL_row) ∈ LA := LA_t (LT4 (List.mem_of_getElem? (i := 69) rfl)) rfl
set_option maxRecDepth 100000 in
theorem qw790 : (Cond.codeWith yL_row cL_row 4 (some .int) [(0, 6, 7, 21), (0, 6, 11, 15)]) ∈ LA := LA_t (LT4 (List.mem_of_getElem? (i := 70) rfl)) rfl
set_option maxRecDepth 100000 in
theorem qw791 : (Cond.methodLink RL 69 yX4_row) ∈ LA := LA_t (LT4 (List.mem_of_getElem? (i := 71) rfl)) rfl
set_option maxRecDepth 100000 in
theorem qw792 : (Cond.instanceMethod yX4_row) ∈ LA := LA_t (LT4 (List.mem_of_getElem? (i := 72) rfl)) rfl
set_option maxRecDepth 100000 in
theorem qw793 : (Cond.selects RX4 yX4_row yX4_row) ∈ LA := LA_t (LT4 (List.mem_of_getElem? (i := 73) rfl)) rfl
set_option maxRecDepth 100000 in
theorem qw794 : (Cond.code yX4_row cX4_row 3 (some .int)) ∈ LA := LA_t (LT4 (List.mem_of_getElem? (i := 74) rfl)) rfl
set_option maxRecDepth 100000 in
theorem qw796 : (Cond.methodLink RX4 254 yX4_rowMask) ∈ LA := LA_t (LT4 (List.mem_of_getElem? (i := 76) rfl)) rfl
set_option maxRecDepth 100000 in
theorem qw797 : (Cond.static yX4_rowMask) ∈ LA := LA_t (LT4 (List.mem_of_getElem? (i := 77) rfl)) rfl
set_option maxRecDepth 100000 in
theorem qw798 : (Cond.code yX4_rowMask cX4_rowMask 3 (some .int)) ∈ LA := LA_t (LT4 (List.mem_of_getElem? (i := 78) rfl)) rfl
set_option maxRecDepth 100000 in
theorem qw799 : (Cond.constantLong RX4 363 255) ∈ LA := LA_t (LT4 (List.mem_of_getElem? (i := 79) rfl)) rfl
set_option maxRecDepth 100000 in
theorem qw800 : (Cond.methodLink RL 84 yL_count) ∈ LA := LA_t (LT4 (List.mem_of_getElem? (i := 80) rfl)) rfl
set_option maxRecDepth 100000 in
theorem qw801 : (Cond.static yL_count) ∈ LA := LA_t (LT4 (List.mem_of_getElem? (i := 81) rfl)) rfl
set_option maxRecDepth 100000 in
theorem qw802 : (Cond.codeWith yL_count cL_count 3 (some .int) [(0, 5, 6, 15)]) ∈ LA := LA_t (LT4 (List.mem_of_getElem? (i := 82) rfl)) rfl
set_option maxRecDepth 100000 in
theorem qw803 : (Cond.methodLink RL 72 yX4_count) ∈ LA := LA_t (LT4 (List.mem_of_getElem? (i := 83) rfl)) rfl
set_option maxRecDepth 100000 in
theorem qw804 : (Cond.instanceMethod yX4_count) ∈ LA := LA_t (LT4 (List.mem_of_getElem? (i := 84) rfl)) rfl
set_option maxRecDepth 100000 in
theorem qw805 : (Cond.selects RX4 yX4_count yX4_count) ∈ LA := LA_t (LT4 (List.mem_of_getElem? (i := 85) rfl)) rfl
set_option maxRecDepth 100000 in
theorem qw806 : (Cond.code yX4_count cX4_count 2 (some .int)) ∈ LA := LA_t (LT4 (List.mem_of_getElem? (i := 86) rfl)) rfl
set_option maxRecDepth 100000 in
theorem qw807 : (Cond.methodLink RX4 259 yX1_layableTriples) ∈ LA := LA_t (LT4 (List.mem_of_getElem? (i := 87) rfl)) rfl
set_option maxRecDepth 100000 in
theorem qw808 : (Cond.instanceMethod yX1_layableTriples) ∈ LA := LA_t (LT4 (List.mem_of_getElem? (i := 88) rfl)) rfl
set_option maxRecDepth 100000 in
theorem qw809 : (Cond.selects RX1 yX1_layableTriples yX1_layableTriples) ∈ LA := LA_t (LT4 (List.mem_of_getElem? (i := 89) rfl)) rfl
set_option maxRecDepth 100000 in
theorem qw810 : (Cond.code yX1_layableTriples cX1_layableTriples 5 (some .int)) ∈ LA := LA_t (LT4 (List.mem_of_getElem? (i := 90) rfl)) rfl
set_option maxRecDepth 100000 in
theorem qw811 : (Cond.methodLink RX4 262 yX1_flippableBlocks) ∈ LA := LA_t (LT4 (List.mem_of_getElem? (i := 91) rfl)) rfl
set_option maxRecDepth 100000 in
theorem qw812 : (Cond.instanceMethod yX1_flippableBlocks) ∈ LA := LA_t (LT4 (List.mem_of_getElem? (i := 92) rfl)) rfl
set_option maxRecDepth 100000 in
theorem qw813 : (Cond.selects RX1 yX1_flippableBlocks yX1_flippableBlocks) ∈ LA := LA_t (LT4 (List.mem_of_getElem? (i := 93) rfl)) rfl
set_option maxRecDepth 100000 in
theorem qw814 : (Cond.code yX1_flippableBlocks cX1_flippableBlocks 4 (some .int)) ∈ LA := LA_t (LT4 (List.mem_of_getElem? (i := 94) rfl)) rfl
set_option maxRecDepth 100000 in
theorem qw815 : (Cond.methodLink RX1 142 yX1_hasFlipBlock) ∈ LA := LA_t (LT4 (List.mem_of_getElem? (i := 95) rfl)) rfl
set_option maxRecDepth 100000 in
theorem qw816 : (Cond.methodLink RX1 146 yX1_isFlippable) ∈ LA := LA_t (LT4 (List.mem_of_getElem? (i := 96) rfl)) rfl
set_option maxRecDepth 100000 in
theorem qw818 : (Cond.methodLink RL 128 yL_whyNot) ∈ LA := LA_t (LT4 (List.mem_of_getElem? (i := 98) rfl)) rfl
set_option maxRecDepth 100000 in
theorem qw819 : (Cond.static yL_whyNot) ∈ LA := LA_t (LT4 (List.mem_of_getElem? (i := 99) rfl)) rfl
set_option maxRecDepth 100000 in
theorem qw820 : (Cond.codeWith yL_whyNot cL_whyNot 5 (some .int) [(0, 7, 8, 15)]) ∈ LA := LA_t (LT4 (List.mem_of_getElem? (i := 100) rfl)) rfl
set_option maxRecDepth 100000 in
theorem qw821 : (Cond.methodLink RL 75 yX4_whyNot) ∈ LA := LA_t (LT4 (List.mem_of_getElem? (i := 101) rfl)) rfl
set_option maxRecDepth 100000 in
theorem qw822 : (Cond.instanceMethod yX4_whyNot) ∈ LA := LA_t (LT4 (List.mem_of_getElem? (i := 102) rfl)) rfl
set_option maxRecDepth 100000 in
theorem qw823 : (Cond.selects RX4 yX4_whyNot yX4_whyNot) ∈ LA := LA_t (LT4 (List.mem_of_getElem? (i := 103) rfl)) rfl
set_option maxRecDepth 100000 in
theorem qw824 : (Cond.code yX4_whyNot cX4_whyNot 4 (some .int)) ∈ LA := LA_t (LT4 (List.mem_of_getElem? (i := 104) rfl)) rfl
set_option maxRecDepth 100000 in
theorem qw825 : (Cond.methodLink RL 133 yL_waysWith) ∈ LA := LA_t (LT4 (List.mem_of_getElem? (i := 105) rfl)) rfl
set_option maxRecDepth 100000 in
theorem qw826 : (Cond.static yL_waysWith) ∈ LA := LA_t (LT4 (List.mem_of_getElem? (i := 106) rfl)) rfl
set_option maxRecDepth 100000 in
theorem qw827 : (Cond.codeWith yL_waysWith cL_waysWith 5 (some .int) [(0, 7, 8, 15)]) ∈ LA := LA_t (LT4 (List.mem_of_getElem? (i := 107) rfl)) rfl
set_option maxRecDepth 100000 in
theorem qw828 : (Cond.methodLink RL 78 yX4_waysWith) ∈ LA := LA_t (LT4 (List.mem_of_getElem? (i := 108) rfl)) rfl
set_option maxRecDepth 100000 in
theorem qw829 : (Cond.instanceMethod yX4_waysWith) ∈ LA := LA_t (LT4 (List.mem_of_getElem? (i := 109) rfl)) rfl
set_option maxRecDepth 100000 in
theorem qw830 : (Cond.selects RX4 yX4_waysWith yX4_waysWith) ∈ LA := LA_t (LT4 (List.mem_of_getElem? (i := 110) rfl)) rfl
set_option maxRecDepth 100000 in
theorem qw831 : (Cond.code yX4_waysWith cX4_waysWith 4 (some .int)) ∈ LA := LA_t (LT4 (List.mem_of_getElem? (i := 111) rfl)) rfl
set_option maxRecDepth 100000 in
theorem qw832 : (Cond.methodLink RX4 267 yX4_cellsOf) ∈ LA := LA_t (LT4 (List.mem_of_getElem? (i := 112) rfl)) rfl
set_option maxRecDepth 100000 in
theorem qw833 : (Cond.constantLong RX4 271 (-1)) ∈ LA := LA_t (LT4 (List.mem_of_getElem? (i := 113) rfl)) rfl
set_option maxRecDepth 100000 in
theorem qw834 : (Cond.methodLink RL 126 yL_forced) ∈ LA := LA_t (LT4 (List.mem_of_getElem? (i := 114) rfl)) rfl
set_option maxRecDepth 100000 in
theorem qw835 : (Cond.static yL_forced) ∈ LA := LA_t (LT4 (List.mem_of_getElem? (i := 115) rfl)) rfl
set_option maxRecDepth 100000 in
theorem qw836 : (Cond.codeWith yL_forced cL_forced 3 (some .int) [(0, 5, 6, 15)]) ∈ LA := LA_t (LT4 (List.mem_of_getElem? (i := 116) rfl)) rfl
set_option maxRecDepth 100000 in
theorem qw837 : (Cond.methodLink RL 81 yX4_forced) ∈ LA := LA_t (LT4 (List.mem_of_getElem? (i := 117) rfl)) rfl
set_option maxRecDepth 100000 in
theorem qw838 : (Cond.instanceMethod yX4_forced) ∈ LA := LA_t (LT4 (List.mem_of_getElem? (i := 118) rfl)) rfl
set_option maxRecDepth 100000 in
theorem qw839 : (Cond.selects RX4 yX4_forced yX4_forced) ∈ LA := LA_t (LT4 (List.mem_of_getElem? (i := 119) rfl)) rfl
set_option maxRecDepth 100000 in
theorem qw840 : (Cond.code yX4_forced cX4_forced 3 (some .int)) ∈ LA := LA_t (LT4 (List.mem_of_getElem? (i := 120) rfl)) rfl
set_option maxRecDepth 100000 in
theorem qw842 : (Cond.methodLink RX4 275 yX1_firstFreeWith) ∈ LA := LA_t (LT4 (List.mem_of_getElem? (i := 122) rfl)) rfl
set_option maxRecDepth 100000 in
theorem qw843 : (Cond.instanceMethod yX1_firstFreeWith) ∈ LA := LA_t (LT4 (List.mem_of_getElem? (i := 123) rfl)) rfl
set_option maxRecDepth 100000 in
theorem qw844 : (Cond.selects RX1 yX1_firstFreeWith yX1_firstFreeWith) ∈ LA := LA_t (LT4 (List.mem_of_getElem? (i := 124) rfl)) rfl
set_option maxRecDepth 100000 in
theorem qw845 : (Cond.code yX1_firstFreeWith cX1_firstFreeWith 5 (some .int)) ∈ LA := LA_t (LT4 (List.mem_of_getElem? (i := 125) rfl)) rfl
set_option maxRecDepth 100000 in
theorem qw846 : (Cond.methodLink RX1 108 yX1_freeCells) ∈ LA := LA_t (LT4 (List.mem_of_getElem? (i := 126) rfl)) rfl
set_option maxRecDepth 100000 in
theorem qw847 : (Cond.methodLink RX1 111 yX1_coverCount) ∈ LA := LA_t (LT4 (List.mem_of_getElem? (i := 127) rfl)) rfl
set_option maxRecDepth 100000 in
theorem qw848 : (Cond.methodLink RX4 278 yX1_firstCover) ∈ LA := LA_t (LT4 (List.mem_of_getElem? (i := 128) rfl)) rfl
set_option maxRecDepth 100000 in
theorem qw849 : (Cond.instanceMethod yX1_firstCover) ∈ LA := LA_t (LT4 (List.mem_of_getElem? (i := 129) rfl)) rfl
set_option maxRecDepth 100000 in
theorem qw850 : (Cond.selects RX1 yX1_firstCover yX1_firstCover) ∈ LA := LA_t (LT4 (List.mem_of_getElem? (i := 130) rfl)) rfl
set_option maxRecDepth 100000 in
theorem qw851 : (Cond.code yX1_firstCover cX1_firstCover 3 (some .int)) ∈ LA := LA_t (LT4 (List.mem_of_getElem? (i := 131) rfl)) rfl
set_option maxRecDepth 100000 in
theorem qw852 : (Cond.methodLink RL 146 yL_acts) ∈ LA := LA_t (LT4 (List.mem_of_getElem? (i := 132) rfl)) rfl
set_option maxRecDepth 100000 in
theorem qw853 : (Cond.static yL_acts) ∈ LA := LA_t (LT4 (List.mem_of_getElem? (i := 133) rfl)) rfl
set_option maxRecDepth 100000 in
theorem qw854 : (Cond.code yL_acts cL_acts 5 (some .int)) ∈ LA := LA_t (LT4 (List.mem_of_getElem? (i := 134) rfl)) rfl
set_option maxRecDepth 100000 in
theorem qw855 : (Cond.methodLink RL 104 yL_fill) ∈ LA := LA_t (LT4 (List.mem_of_getElem? (i := 135) rfl)) rfl
set_option maxRecDepth 100000 in
theorem qw856 : (Cond.static yL_fill) ∈ LA := LA_t (LT4 (List.mem_of_getElem? (i := 136) rfl)) rfl
set_option maxRecDepth 100000 in
theorem qw857 : (Cond.codeWith yL_fill cL_fill 2 (some .int) [(0, 4, 5, 23)]) ∈ LA := LA_t (LT4 (List.mem_of_getElem? (i := 137) rfl)) rfl
set_option maxRecDepth 100000 in
theorem qw858 : (Cond.methodLink RL 40 yX4_fill) ∈ LA := LA_t (LT4 (List.mem_of_getElem? (i := 138) rfl)) rfl
set_option maxRecDepth 100000 in
theorem qw859 : (Cond.instanceMethod yX4_fill) ∈ LA := LA_t (LT4 (List.mem_of_getElem? (i := 139) rfl)) rfl
set_option maxRecDepth 100000 in
theorem qw860 : (Cond.selects RX4 yX4_fill yX4_fill) ∈ LA := LA_t (LT4 (List.mem_of_getElem? (i := 140) rfl)) rfl
set_option maxRecDepth 100000 in
theorem qw861 : (Cond.code yX4_fill cX4_fill 2 (some .int)) ∈ LA := LA_t (LT4 (List.mem_of_getElem? (i := 141) rfl)) rfl
set_option maxRecDepth 100000 in
theorem qw863 : (Cond.methodLink RX4 158 yX2_paveFirstWay) ∈ LA := LA_t (LT4 (List.mem_of_getElem? (i := 143) rfl)) rfl
set_option maxRecDepth 100000 in
theorem qw864 : (Cond.instanceMethod yX2_paveFirstWay) ∈ LA := LA_t (LT4 (List.mem_of_getElem? (i := 144) rfl)) rfl
set_option maxRecDepth 100000 in
theorem qw865 : (Cond.selects RX2 yX2_paveFirstWay yX2_paveFirstWay) ∈ LA := LA_t (LT4 (List.mem_of_getElem? (i := 145) rfl)) rfl
set_option maxRecDepth 100000 in
theorem qw866 : (Cond.code yX2_paveFirstWay cX2_paveFirstWay 8 none) ∈ LA := LA_t (LT4 (List.mem_of_getElem? (i := 146) rfl)) rfl
set_option maxRecDepth 100000 in
theorem qw867 : (Cond.methodLink RX2 124 yX1_freeCells) ∈ LA := LA_t (LT4 (List.mem_of_getElem? (i := 147) rfl)) rfl
set_option maxRecDepth 100000 in
theorem qw868 : (Cond.methodLink RX2 134 yX2_leastTurn) ∈ LA := LA_t (LT4 (List.mem_of_getElem? (i := 148) rfl)) rfl
set_option maxRecDepth 100000 in
theorem qw870 : (Cond.instanceMethod yX2_leastTurn) ∈ LA := LA_t (LT4 (List.mem_of_getElem? (i := 150) rfl)) rfl
set_option maxRecDepth 100000 in
theorem qw871 : (Cond.code yX2_leastTurn cX2_leastTurn 4 (some .int)) ∈ LA := LA_t (LT4 (List.mem_of_getElem? (i := 151) rfl)) rfl
set_option maxRecDepth 100000 in
theorem qw872 : (Cond.methodLink RX2 137 yX1_putTriple) ∈ LA := LA_t (LT4 (List.mem_of_getElem? (i := 152) rfl)) rfl
set_option maxRecDepth 100000 in
theorem qw873 : (Cond.methodLink RL 107 yL_halve) ∈ LA := LA_t (LT4 (List.mem_of_getElem? (i := 153) rfl)) rfl
set_option maxRecDepth 100000 in
theorem qw874 : (Cond.static yL_halve) ∈ LA := LA_t (LT4 (List.mem_of_getElem? (i := 154) rfl)) rfl
set_option maxRecDepth 100000 in
theorem qw875 : (Cond.codeWith yL_halve cL_halve 2 (some .int) [(0, 4, 5, 23)]) ∈ LA := LA_t (LT4 (List.mem_of_getElem? (i := 155) rfl)) rfl
set_option maxRecDepth 100000 in
theorem qw876 : (Cond.methodLink RL 44 yX4_halve) ∈ LA := LA_t (LT4 (List.mem_of_getElem? (i := 156) rfl)) rfl
set_option maxRecDepth 100000 in
theorem qw877 : (Cond.instanceMethod yX4_halve) ∈ LA := LA_t (LT4 (List.mem_of_getElem? (i := 157) rfl)) rfl
set_option maxRecDepth 100000 in
theorem qw878 : (Cond.selects RX4 yX4_halve yX4_halve) ∈ LA := LA_t (LT4 (List.mem_of_getElem? (i := 158) rfl)) rfl
set_option maxRecDepth 100000 in
theorem qw879 : (Cond.code yX4_halve cX4_halve 1 (some .int)) ∈ LA := LA_t (LT4 (List.mem_of_getElem? (i := 159) rfl)) rfl
set_option maxRecDepth 100000 in
theorem qw880 : (Cond.methodLink RX4 162 yX1_isHalvable) ∈ LA := LA_t (LT4 (List.mem_of_getElem? (i := 160) rfl)) rfl
set_option maxRecDepth 100000 in
theorem qw881 : (Cond.instanceMethod yX1_isHalvable) ∈ LA := LA_t (LT4 (List.mem_of_getElem? (i := 161) rfl)) rfl
set_option maxRecDepth 100000 in
theorem qw882 : (Cond.selects RX1 yX1_isHalvable yX1_isHalvable) ∈ LA := LA_t (LT4 (List.mem_of_getElem? (i := 162) rfl)) rfl
set_option maxRecDepth 100000 in
theorem qw883 : (Cond.code yX1_isHalvable cX1_isHalvable 2 (some .boolean)) ∈ LA := LA_t (LT4 (List.mem_of_getElem? (i := 163) rfl)) rfl
set_option maxRecDepth 100000 in
theorem qw885 : (Cond.methodLink RX4 168 yX1_paveSquares) ∈ LA := LA_t (LT4 (List.mem_of_getElem? (i := 165) rfl)) rfl
set_option maxRecDepth 100000 in
theorem qw886 : (Cond.instanceMethod yX1_paveSquares) ∈ LA := LA_t (LT4 (List.mem_of_getElem? (i := 166) rfl)) rfl
set_option maxRecDepth 100000 in
theorem qw887 : (Cond.selects RX1 yX1_paveSquares yX1_paveSquares) ∈ LA := LA_t (LT4 (List.mem_of_getElem? (i := 167) rfl)) rfl
set_option maxRecDepth 100000 in
theorem qw888 : (Cond.code yX1_paveSquares cX1_paveSquares 1 none) ∈ LA := LA_t (LT4 (List.mem_of_getElem? (i := 168) rfl)) rfl
set_option maxRecDepth 100000 in
theorem qw889 : (Cond.methodLink RX1 149 yX1_paveSquare) ∈ LA := LA_t (LT4 (List.mem_of_getElem? (i := 169) rfl)) rfl
set_option maxRecDepth 100000 in
theorem qw890 : (Cond.static yX1_paveSquare) ∈ LA := LA_t (LT4 (List.mem_of_getElem? (i := 170) rfl)) rfl
set_option maxRecDepth 100000 in
theorem qw891 : (Cond.code yX1_paveSquare cX1_paveSquare 15 none) ∈ LA := LA_t (LT4 (List.mem_of_getElem? (i := 171) rfl)) rfl
set_option maxRecDepth 100000 in
theorem qw892 : (Cond.methodLink RX1 153 yX1_quarterTurn) ∈ LA := LA_t (LT4 (List.mem_of_getElem? (i := 172) rfl)) rfl
set_option maxRecDepth 100000 in
theorem qw893 : (Cond.static yX1_quarterTurn) ∈ LA := LA_t (LT4 (List.mem_of_getElem? (i := 173) rfl)) rfl
set_option maxRecDepth 100000 in
theorem qw894 : (Cond.code yX1_quarterTurn cX1_quarterTurn 2 (some .int)) ∈ LA := LA_t (LT4 (List.mem_of_getElem? (i := 174) rfl)) rfl
set_option maxRecDepth 100000 in
theorem qw895 : (Cond.methodLink RL 150 yL_hangs) ∈ LA := LA_t (LT4 (List.mem_of_getElem? (i := 175) rfl)) rfl
set_option maxRecDepth 100000 in
theorem qw896 : (Cond.static yL_hangs) ∈ LA := LA_t (LT4 (List.mem_of_getElem? (i := 176) rfl)) rfl
set_option maxRecDepth 100000 in
theorem qw897 : (Cond.code yL_hangs cL_hangs 19 (some .boolean)) ∈ LA := LA_t (LT4 (List.mem_of_getElem? (i := 177) rfl)) rfl
set_option maxRecDepth 100000 in
theorem qw898 : (Cond.methodLink RL 118 yL_triple) ∈ LA := LA_t (LT4 (List.mem_of_getElem? (i := 178) rfl)) rfl
set_option maxRecDepth 100000 in
theorem qw899 : (Cond.static yL_triple) ∈ LA := LA_t (LT4 (List.mem_of_getElem? (i := 179) rfl)) rfl
set_option maxRecDepth 100000 in
theorem qw900 : (Cond.codeWith yL_triple cL_triple 4 (some .int) [(0, 6, 7, 21), (0, 6, 11, 15)]) ∈ LA := LA_t (LT4 (List.mem_of_getElem? (i := 180) rfl)) rfl
set_option maxRecDepth 100000 in
theorem qw901 : (Cond.methodLink RL 66 yX4_triple) ∈ LA := LA_t (LT4 (List.mem_of_getElem? (i := 181) rfl)) rfl
set_option maxRecDepth 100000 in
theorem qw902 : (Cond.instanceMethod yX4_triple) ∈ LA := LA_t (LT4 (List.mem_of_getElem? (i := 182) rfl)) rfl
set_option maxRecDepth 100000 in
theorem qw903 : (Cond.selects RX4 yX4_triple yX4_triple) ∈ LA := LA_t (LT4 (List.mem_of_getElem? (i := 183) rfl)) rfl
set_option maxRecDepth 100000 in
theorem qw904 : (Cond.code yX4_triple cX4_triple 4 (some .int)) ∈ LA := LA_t (LT4 (List.mem_of_getElem? (i := 184) rfl)) rfl
set_option maxRecDepth 100000 in
theorem qw906 : (Cond.methodLink RX4 237 yX1_tripleName) ∈ LA := LA_t (LT4 (List.mem_of_getElem? (i := 186) rfl)) rfl
set_option maxRecDepth 100000 in
theorem qw907 : (Cond.methodLink RX4 240 yX4_columnOf) ∈ LA := LA_t (LT4 (List.mem_of_getElem? (i := 187) rfl)) rfl
set_option maxRecDepth 100000 in
theorem qw908 : (Cond.methodLink RX4 243 yX4_rowOf) ∈ LA := LA_t (LT4 (List.mem_of_getElem? (i := 188) rfl)) rfl
set_option maxRecDepth 100000 in
theorem qw909 : (Cond.methodLink RX4 246 yX4_turnOf) ∈ LA := LA_t (LT4 (List.mem_of_getElem? (i := 189) rfl)) rfl
set_option maxRecDepth 100000 in
theorem qw910 : (Cond.methodLink RL 120 yL_bits) ∈ LA := LA_t (LT4 (List.mem_of_getElem? (i := 190) rfl)) rfl
set_option maxRecDepth 100000 in
theorem qw911 : (Cond.static yL_bits) ∈ LA := LA_t (LT4 (List.mem_of_getElem? (i := 191) rfl)) rfl
set_option maxRecDepth 100000 in
theorem qw912 : (Cond.code yL_bits cL_bits 3 (some .int)) ∈ LA := LA_t (LT4 (List.mem_of_getElem? (i := 192) rfl)) rfl
set_option maxRecDepth 100000 in
theorem qw913 : (Cond.methodLink RL 123 yX4_lonely) ∈ LA := LA_t (LT4 (List.mem_of_getElem? (i := 193) rfl)) rfl
set_option maxRecDepth 100000 in
theorem qw914 : (Cond.instanceMethod yX4_lonely) ∈ LA := LA_t (LT4 (List.mem_of_getElem? (i := 194) rfl)) rfl
set_option maxRecDepth 100000 in
theorem qw915 : (Cond.selects RX4 yX4_lonely yX4_lonely) ∈ LA := LA_t (LT4 (List.mem_of_getElem? (i := 195) rfl)) rfl
set_option maxRecDepth 100000 in
theorem qw916 : (Cond.code yX4_lonely cX4_lonely 2 (some .int)) ∈ LA := LA_t (LT4 (List.mem_of_getElem? (i := 196) rfl)) rfl
set_option maxRecDepth 100000 in
theorem qw917 : (Cond.methodLink RL 154 yL_addsUp) ∈ LA := LA_t (LT4 (List.mem_of_getElem? (i := 197) rfl)) rfl
set_option maxRecDepth 100000 in
theorem qw918 : (Cond.static yL_addsUp) ∈ LA := LA_t (LT4 (List.mem_of_getElem? (i := 198) rfl)) rfl
set_option maxRecDepth 100000 in
theorem qw919 : (Cond.code yL_addsUp cL_addsUp 10 (some .boolean)) ∈ LA := LA_t (LT4 (List.mem_of_getElem? (i := 199) rfl)) rfl
set_option maxRecDepth 100000 in
theorem qw920 : (Cond.constant RL 149 (-2000000)) ∈ LA := LA_t (LT4 (List.mem_of_getElem? (i := 200) rfl)) rfl
set_option maxRecDepth 100000 in
theorem qw921 : (Cond.sameMethod "java/lang/Throwable" "java/lang/Throwable" "fillInStackTrace" "(I)Ljava/lang/Throwable;") ∈ LA := LA_t (LT4 (List.mem_of_getElem? (i := 201) rfl)) rfl
set_option maxRecDepth 100000 in
theorem qw922 : (Cond.castable RX1 "java/lang/Object") ∈ LN := LN_t (LT4 (List.mem_of_getElem? (i := 202) rfl)) rfl
set_option maxRecDepth 100000 in
theorem qw923 : (Cond.castable RX4 "java/lang/Object") ∈ LN := LN_t (LT4 (List.mem_of_getElem? (i := 203) rfl)) rfl
set_option maxRecDepth 100000 in
theorem qw924 : (Cond.castable RJx4a65c "java/lang/Object") ∈ LN := LN_t (LT4 (List.mem_of_getElem? (i := 204) rfl)) rfl
set_option maxRecDepth 100000 in
theorem qw925 : (Cond.castable RX0 "java/lang/Object") ∈ LN := LN_t (LT4 (List.mem_of_getElem? (i := 205) rfl)) rfl
set_option maxRecDepth 100000 in
theorem qw926 : (Cond.castable RX2 "java/lang/Object") ∈ LN := LN_t (LT4 (List.mem_of_getElem? (i := 206) rfl)) rfl
set_option maxRecDepth 100000 in
theorem qw927 : (Cond.castable RX6 "java/lang/Object") ∈ LN := LN_t (LT4 (List.mem_of_getElem? (i := 207) rfl)) rfl
set_option maxRecDepth 100000 in
theorem qw928 : (Cond.castable "java/lang/IllegalStateException" "java/lang/Object") ∈ LN := LN_t (LT4 (List.mem_of_getElem? (i := 208) rfl)) rfl
set_option maxRecDepth 100000 in
theorem qw929 : (Cond.castable "java/lang/IllegalArgumentException" "java/lang/Object") ∈ LN := LN_t (LT4 (List.mem_of_getElem? (i := 209) rfl)) rfl
set_option maxRecDepth 100000 in
theorem qw930 : (Cond.castable RX3 "java/lang/Object") ∈ LN := LN_t (LT4 (List.mem_of_getElem? (i := 210) rfl)) rfl
set_option maxRecDepth 100000 in
theorem qw931 : (Cond.castable "java/lang/IndexOutOfBoundsException" "java/lang/Object") ∈ LN := LN_t (LT4 (List.mem_of_getElem? (i := 211) rfl)) rfl
set_option maxRecDepth 100000 in
theorem qw932 : (Cond.castable "java/lang/Throwable" "java/lang/Object") ∈ LN := LN_t (LT4 (List.mem_of_getElem? (i := 212) rfl)) rfl
set_option maxRecDepth 100000 in
theorem qw933 : (Cond.castable RJ0 "java/lang/Object") ∈ LN := LN_t (LT4 (List.mem_of_getElem? (i := 213) rfl)) rfl
set_option maxRecDepth 100000 in
theorem qw934 : (Cond.sameMethod "[Ljava/lang/Object;" "java/lang/Object" "getClass" "()Ljava/lang/Class;") ∈ LA := LA_t (LT4 (List.mem_of_getElem? (i := 214) rfl)) rfl
set_option maxRecDepth 100000 in
theorem qw935 : (Cond.selects "[Ljava/lang/Object;" ⟨"java/lang/Object", "getClass", "()Ljava/lang/Class;"⟩ ⟨"java/lang/Object", "getClass", "()Ljava/lang/Class;"⟩) ∈ LA := LA_t (LT4 (List.mem_of_getElem? (i := 215) rfl)) rfl
set_option maxRecDepth 100000 in
theorem qw936 : (Cond.declares ⟨"java/lang/Object", "getClass", "()Ljava/lang/Class;"⟩) ∈ LN := LN_t (LT4 (List.mem_of_getElem? (i := 216) rfl)) rfl
set_option maxRecDepth 100000 in
theorem qw937 : (Cond.castable "[LBentGardens$Garden;" "java/lang/Object") ∈ LN := LN_t (LT4 (List.mem_of_getElem? (i := 217) rfl)) rfl
set_option maxRecDepth 100000 in
theorem qw938 : (Cond.castable "[I" "java/lang/Object") ∈ LN := LN_t (LT4 (List.mem_of_getElem? (i := 218) rfl)) rfl
set_option maxRecDepth 100000 in
theorem qw939 : (Cond.castable "[[I" "java/lang/Object") ∈ LN := LN_t (LT4 (List.mem_of_getElem? (i := 219) rfl)) rfl
set_option maxRecDepth 100000 in
theorem qw940 : (Cond.castable "[B" "java/lang/Object") ∈ LN := LN_t (LT4 (List.mem_of_getElem? (i := 220) rfl)) rfl
set_option maxRecDepth 100000 in
theorem qw941 : (Cond.castable "[Ljava/lang/Object;" "java/lang/Object") ∈ LN := LN_t (LT4 (List.mem_of_getElem? (i := 221) rfl)) rfl
set_option maxRecDepth 100000 in
theorem qw942 : (Cond.castable "[J" "java/lang/Object") ∈ LN := LN_t (LT4 (List.mem_of_getElem? (i := 222) rfl)) rfl
set_option maxRecDepth 100000 in
theorem qw943 : (Cond.arrayClass .long) ∈ LA := LA_t (LT4 (List.mem_of_getElem? (i := 223) rfl)) rfl
theorem qs0 : (Cond.selects RX3 yX3_isRowWhole yX3_isRowWhole) ∈ LA := LA_sel (q := (yX3_isRowWhole, 5)) (List.mem_of_getElem? (i := 0) (by decide +kernel))
theorem qs1 : (Cond.selects RX3 yX3_isLastForPond yX3_isLastForPond) ∈ LA := LA_sel (q := (yX3_isLastForPond, 5)) (List.mem_of_getElem? (i := 1) (by decide +kernel))
theorem qs2 : (Cond.selects RX2 yX2_begin yX2_begin) ∈ LA := LA_sel (q := (yX2_begin, 4)) (List.mem_of_getElem? (i := 2) (by decide +kernel))
theorem qs3 : (Cond.selects RX2 yX2_goOn yX2_goOn) ∈ LA := LA_sel (q := (yX2_goOn, 4)) (List.mem_of_getElem? (i := 3) (by decide +kernel))
theorem qs4 : (Cond.selects RX2 yX2_findTakes yX2_findTakes) ∈ LA := LA_sel (q := (yX2_findTakes, 4)) (List.mem_of_getElem? (i := 4) (by decide +kernel))
theorem qs5 : (Cond.selects RX2 yX2_goOnByTurns yX2_goOnByTurns) ∈ LA := LA_sel (q := (yX2_goOnByTurns, 4)) (List.mem_of_getElem? (i := 5) (by decide +kernel))
theorem qs6 : (Cond.selects RX2 yX2_isOpen yX2_isOpen) ∈ LA := LA_sel (q := (yX2_isOpen, 4)) (List.mem_of_getElem? (i := 6) (by decide +kernel))
theorem qs7 : (Cond.selects RX2 yX2_windowAfter yX2_windowAfter) ∈ LA := LA_sel (q := (yX2_windowAfter, 4)) (List.mem_of_getElem? (i := 7) (by decide +kernel))
theorem qs8 : (Cond.selects RX2 yX2_countRest yX2_countRest) ∈ LA := LA_sel (q := (yX2_countRest, 4)) (List.mem_of_getElem? (i := 8) (by decide +kernel))
theorem qs9 : (Cond.selects RX2 yX2_restOf yX2_restOf) ∈ LA := LA_sel (q := (yX2_restOf, 4)) (List.mem_of_getElem? (i := 9) (by decide +kernel))
theorem qs10 : (Cond.selects RX2 yX2_countPlace yX2_countPlace) ∈ LA := LA_sel (q := (yX2_countPlace, 4)) (List.mem_of_getElem? (i := 10) (by decide +kernel))
theorem qs11 : (Cond.selects RX2 yX2_countTurns yX2_countTurns) ∈ LA := LA_sel (q := (yX2_countTurns, 4)) (List.mem_of_getElem? (i := 11) (by decide +kernel))
theorem qs12 : (Cond.selects RX2 yX2_waysAround yX2_waysAround) ∈ LA := LA_sel (q := (yX2_waysAround, 4)) (List.mem_of_getElem? (i := 12) (by decide +kernel))
theorem qs13 : (Cond.selects RX2 yX2_restFrom yX2_restFrom) ∈ LA := LA_sel (q := (yX2_restFrom, 4)) (List.mem_of_getElem? (i := 13) (by decide +kernel))
theorem qs14 : (Cond.selects "java/lang/Throwable" ⟨"java/lang/Throwable", "fillInStackTrace", "(I)Ljava/lang/Throwable;"⟩ ⟨"java/lang/Throwable", "fillInStackTrace", "(I)Ljava/lang/Throwable;"⟩) ∈ LA := LA_sel (q := (⟨"java/lang/Throwable", "fillInStackTrace", "(I)Ljava/lang/Throwable;"⟩, 6)) (List.mem_of_getElem? (i := 14) (by decide +kernel))
theorem qs15 : (Cond.selects RX4 yX4_saveState yX4_saveState) ∈ LA := LA_sel (q := (yX4_saveState, 5)) (List.mem_of_getElem? (i := 15) (by decide +kernel))
theorem qs16 : (Cond.selects RJx4a65c yJx4a65c_fastRemove_b59b0 yJx4a65c_fastRemove_b59b0) ∈ LA := LA_sel (q := (yJx4a65c_fastRemove_b59b0, 3)) (List.mem_of_getElem? (i := 16) (by decide +kernel))
theorem qs17 : (Cond.selects RJx4a65c yJx4a65c_add_72be8 yJx4a65c_add_72be8) ∈ LA := LA_sel (q := (yJx4a65c_add_72be8, 3)) (List.mem_of_getElem? (i := 17) (by decide +kernel))
theorem qs18 : (Cond.selects RJx4a65c yJx4a65c_grow_d5877 yJx4a65c_grow_d5877) ∈ LA := LA_sel (q := (yJx4a65c_grow_d5877, 3)) (List.mem_of_getElem? (i := 18) (by decide +kernel))
theorem qs19 : (Cond.selects RJx4a65c yJx4a65c_grow_92f84 yJx4a65c_grow_92f84) ∈ LA := LA_sel (q := (yJx4a65c_grow_92f84, 3)) (List.mem_of_getElem? (i := 19) (by decide +kernel))
theorem qs20 : (Cond.selects RX4 yX4_requireCell yX4_requireCell) ∈ LA := LA_sel (q := (yX4_requireCell, 5)) (List.mem_of_getElem? (i := 20) (by decide +kernel))
theorem qs21 : (Cond.selects RX1 yX1_tripleCells yX1_tripleCells) ∈ LA := LA_sel (q := (yX1_tripleCells, 9)) (List.mem_of_getElem? (i := 21) (by decide +kernel))
theorem qs22 : (Cond.selects RX4 yX4_requireSlot yX4_requireSlot) ∈ LA := LA_sel (q := (yX4_requireSlot, 5)) (List.mem_of_getElem? (i := 22) (by decide +kernel))
theorem qs23 : (Cond.selects RX1 yX1_couldCover yX1_couldCover) ∈ LA := LA_sel (q := (yX1_couldCover, 9)) (List.mem_of_getElem? (i := 23) (by decide +kernel))
theorem qs24 : (Cond.selects RX2 yX2_leastTurn yX2_leastTurn) ∈ LA := LA_sel (q := (yX2_leastTurn, 4)) (List.mem_of_getElem? (i := 24) (by decide +kernel))
