-- what all contracts stand on: the tables' words of nest mates, the world's shape, calls
def zNest : List Cond := [.fieldLinkNest "SauceredMilk" 69 "SauceredMilk$Court" "present" "I" "SauceredMilk", .fieldLinkNest "SauceredMilk" 79 "SauceredMilk$Court" "his" "I" "SauceredMilk", .fieldLinkNest "SauceredMilk" 82 "SauceredMilk$Court" "power" "I" "SauceredMilk", .fieldLinkNest "SauceredMilk" 85 "SauceredMilk$Court" "spite" "I" "SauceredMilk", .fieldLinkNest "SauceredMilk" 152 "SauceredMilk$Court" "hour" "I" "SauceredMilk", .fieldLinkNest "SauceredMilk" 105 "SauceredMilk$Town" "milky" "I" "SauceredMilk", .fieldLinkNest "SauceredMilk" 203 "SauceredMilk$Sights" "count" "I" "SauceredMilk", .fieldLinkNest "SauceredMilk" 59 "SauceredMilk$World" "court" "LSauceredMilk$Court;" "SauceredMilk", .fieldLinkNest "SauceredMilk" 91 "SauceredMilk$World" "town" "LSauceredMilk$Town;" "SauceredMilk", .fieldLinkNest "SauceredMilk" 199 "SauceredMilk$World" "sights" "LSauceredMilk$Sights;" "SauceredMilk", .fieldLinkNest "SauceredMilk$Hearing" 32 "SauceredMilk$Pad" "count" "I" "SauceredMilk", .fieldLinkNest "SauceredMilk" 108 "SauceredMilk$Pad" "count" "I" "SauceredMilk", .fieldLinkNest "SauceredMilk" 128 "SauceredMilk$Hearing" "court" "LSauceredMilk$Court;" "SauceredMilk", .fieldLinkNest "SauceredMilk" 125 "SauceredMilk$Hearing" "acts" "I" "SauceredMilk", .fieldLinkNest "SauceredMilk" 122 "SauceredMilk$Hearing" "reason" "I" "SauceredMilk", .fieldLinkNest "SauceredMilk" 155 "SauceredMilk$Hearing" "firstOffAct" "I" "SauceredMilk", .fieldLinkNest "SauceredMilk" 158 "SauceredMilk$Hearing" "firstOffWitness" "I" "SauceredMilk", .fieldLinkNest "SauceredMilk" 213 "SauceredMilk$Guesses" "count" "I" "SauceredMilk", .methodLinkNest "SauceredMilk$Court" 43 ⟨"SauceredMilk", "isWitness", "(I)Z"⟩ "SauceredMilk", .methodLinkNest "SauceredMilk$Town" 25 ⟨"SauceredMilk", "isCell", "(I)Z"⟩ "SauceredMilk", .methodLinkNest "SauceredMilk$Pad" 19 ⟨"SauceredMilk", "within", "(III)Z"⟩ "SauceredMilk", .methodLinkNest "SauceredMilk$Pad" 40 ⟨"SauceredMilk", "isWitness", "(I)Z"⟩ "SauceredMilk", .methodLinkNest "SauceredMilk$Court" 61 ⟨"SauceredMilk", "isPlace", "(I)Z"⟩ "SauceredMilk", .methodLinkNest "SauceredMilk$Court" 57 ⟨"SauceredMilk", "lossAt", "(IZII)I"⟩ "SauceredMilk", .methodLinkNest "SauceredMilk$Bowls" 24 ⟨"SauceredMilk", "within", "(III)Z"⟩ "SauceredMilk", .methodLinkNest "SauceredMilk$Sights" 28 ⟨"SauceredMilk", "within", "(III)Z"⟩ "SauceredMilk", .methodLinkNest "SauceredMilk$Sights" 36 ⟨"SauceredMilk", "lossAt", "(IZII)I"⟩ "SauceredMilk", .methodLinkNest "SauceredMilk$Guesses" 42 ⟨"SauceredMilk", "within", "(III)Z"⟩ "SauceredMilk"]
def zIsNest : Cond → Bool
  | .fieldLinkNest _ _ _ _ _ _ => true
  | .methodLinkNest _ _ _ _ => true
  | _ => false
theorem zNest_is : ∀ w ∈ zNest, zIsNest w = true := by decide +kernel
def zNw (U : State) : Prop := ∀ w ∈ zNest, va_Nw w U
theorem zNw.warm {s U : State} (hW : s.WarmedH U.vm) (h : zNw s) : zNw U := by
  intro w hw
  have h1 := zNest_is w hw
  have h2 := h w hw
  cases w <;> first | (exact va_Nw.warmF hW h2) | (exact va_Nw.warmM hW h2) | (simp [zIsNest] at h1)
theorem zNw.same {s U : State} (hv : s.vm = U.vm) (h : zNw s) : zNw U := by
  intro w hw
  have h1 := zNest_is w hw
  have h2 := h w hw
  cases w <;> first | (exact va_Nw.same rfl hv h2) | (simp [zIsNest] at h1)
def zK (D : va_G) (T : List (ClassId × FieldType)) (U : State) : Prop := va_K D vwCl T U ∧ zNw U ∧ va_AO RX7 U
theorem zK.warm {D : va_G} {T : List (ClassId × FieldType)} {s U : State} (hW : s.WarmedH U.vm) (h : zK D T s) : zK D T U := ⟨va_K.moved hW.alike h.1, h.2.1.warm hW, va_AO.moved hW.alike h.2.2⟩
theorem zK.calling {D : va_G} {T : List (ClassId × FieldType)} {U : State} {g : JFrame} {mk : MethodId} {a : Array Value} (h : zK D T U) : zK D T (U.calling g mk a) := ⟨va_K.moved (u := U) (U := U.calling g mk a) (Vm.Alike.refl U.vm) h.1, zNw.same (s := U) (U := U.calling g mk a) rfl h.2.1, va_AO.moved (u := U) (U := U.calling g mk a) (Vm.Alike.refl U.vm) h.2.2⟩
abbrev zT (cI cC cZ : ClassId) : List (ClassId × FieldType) := [(cI, .int), (cC, .char), (cZ, .boolean)]
def zPre (D : va_G) (T : List (ClassId × FieldType)) (sz : Nat) (c0 : va_W) : State → Prop := fun U => U.heap.size = sz ∧ va_P D vwCl c0 U.heap ∧ zK D T U ∧ va_D (fun _ => True) c0
theorem zPre.blind {D : va_G} {T : List (ClassId × FieldType)} {sz : Nat} {c0 : va_W} {av : List Value} : FrameBlind (va_Pc av (zPre D T sz c0)) := fun a U g mk q => by
  obtain ⟨q0, q1, q2, q3, q4⟩ := q
  exact ⟨q0, q1, q2, q3.calling, q4⟩
def zB : List Cond := lw_tbl.filter goodWord
theorem z_B {w : Cond} (h : w ∈ lw_tbl) (hg : goodWord w = true) : w ∈ zB := List.mem_filter.mpr ⟨h, hg⟩
theorem z_Bt {w : Cond} (h : w ∈ zB) : w ∈ lw_tbl := (List.mem_filter.mp h).1
theorem z_good {w : Cond} (h : w ∈ zB) : (w.onTables && w.keeps) = true ∨ ∃ ty, w = .arrayClass ty := good_of_word (List.mem_filter.mp h).2
theorem z_tp {w : Cond} (i : Nat) (h : (k2_sels lw_privs)[i]? = some w) (hg : goodWord w = true) : w ∈ zB := z_B (List.mem_append_left _ (List.mem_of_getElem? h)) hg
theorem z_t1 {w : Cond} (i : Nat) (h : tables_1_1[i]? = some w) (hg : goodWord w = true) : w ∈ zB := z_B (List.mem_append_right _ (List.mem_append_left _ (List.mem_of_getElem? h))) hg
theorem z_t2 {w : Cond} (i : Nat) (h : tables_1_2[i]? = some w) (hg : goodWord w = true) : w ∈ zB := z_B (List.mem_append_right _ (List.mem_append_right _ (List.mem_append_left _ (List.mem_of_getElem? h)))) hg
theorem z_t3 {w : Cond} (i : Nat) (h : tables_1_3[i]? = some w) (hg : goodWord w = true) : w ∈ zB := z_B (List.mem_append_right _ (List.mem_append_right _ (List.mem_append_right _ (List.mem_append_left _ (List.mem_of_getElem? h))))) hg
theorem z_t4 {w : Cond} (i : Nat) (h : tables_1_4[i]? = some w) (hg : goodWord w = true) : w ∈ zB := z_B (List.mem_append_right _ (List.mem_append_right _ (List.mem_append_right _ (List.mem_append_right _ (List.mem_of_getElem? h))))) hg
theorem z_gV {own C : String} {idx n : Nat} {y : MethodName} {b : ByteArray} {ret : Option FieldType} (h1 : Cond.methodLink own idx y ∈ zB) (h2 : Cond.instanceMethod y ∈ zB) (h3 : Cond.selects C y y ∈ zB) (h4 : Cond.initialized C ∈ zB) (h5 : Cond.code y b n ret ∈ zB) : GoodIn zB (wsV own idx C y (.code y b n ret :: zB)) := by
  intro w hw
  have h : w ∈ zB := by
    rcases List.mem_append.mp hw with hw | hw
    · rcases List.mem_cons.mp hw with rfl | hw
      · exact h1
      rcases List.mem_cons.mp hw with rfl | hw
      · exact h2
      rcases List.mem_cons.mp hw with rfl | hw
      · exact h3
      rcases List.mem_cons.mp hw with rfl | hw
      · exact h4
      cases hw
    · rcases List.mem_cons.mp hw with rfl | hw
      · exact h5
      · exact hw
  exact ⟨h, z_good h⟩
theorem z_gS {own : String} {idx n : Nat} {y : MethodName} {b : ByteArray} {ret : Option FieldType} (h1 : Cond.methodLink own idx y ∈ zB) (h2 : Cond.static y ∈ zB) (h4 : Cond.initialized y.cls ∈ zB) (h5 : Cond.code y b n ret ∈ zB) : GoodIn zB (va_wsS own idx y (.code y b n ret :: zB)) := by
  intro w hw
  have h : w ∈ zB := by
    rcases List.mem_append.mp hw with hw | hw
    · rcases List.mem_cons.mp hw with rfl | hw
      · exact h1
      rcases List.mem_cons.mp hw with rfl | hw
      · exact h2
      rcases List.mem_cons.mp hw with rfl | hw
      · exact h4
      cases hw
    · rcases List.mem_cons.mp hw with rfl | hw
      · exact h5
      · exact hw
  exact ⟨h, z_good h⟩
theorem z_gN {n : Nat} {y : MethodName} {b : ByteArray} {ret : Option FieldType} (h5 : Cond.code y b n ret ∈ zB) : GoodIn zB (.code y b n ret :: zB) := by
  intro w hw
  have h : w ∈ zB := by
    rcases List.mem_cons.mp hw with rfl | hw
    · exact h5
    · exact hw
  exact ⟨h, z_good h⟩
theorem z1_0 : Cond.initialized RL ∈ zB := z_t1 0 rfl rfl
theorem z1_1 : Cond.initialized RX8 ∈ zB := z_t1 1 rfl rfl
theorem z1_2 : Cond.initialized RX7 ∈ zB := z_t1 2 rfl rfl
theorem z1_3 : Cond.initialized RX1 ∈ zB := z_t1 3 rfl rfl
theorem z1_4 : Cond.initialized RX6 ∈ zB := z_t1 4 rfl rfl
theorem z1_5 : Cond.initialized RX5 ∈ zB := z_t1 5 rfl rfl
theorem z1_6 : Cond.initialized RX4 ∈ zB := z_t1 6 rfl rfl
theorem z1_7 : Cond.initialized RX3 ∈ zB := z_t1 7 rfl rfl
theorem z1_8 : Cond.initialized RX0 ∈ zB := z_t1 8 rfl rfl
theorem z1_9 : Cond.initialized RX2 ∈ zB := z_t1 9 rfl rfl
theorem z1_10 : Cond.initialized RX9 ∈ zB := z_t1 10 rfl rfl
theorem z1_11 : Cond.initialized "java/lang/Integer" ∈ zB := z_t1 11 rfl rfl
theorem z1_12 : Cond.initialized "java/lang/System" ∈ zB := z_t1 12 rfl rfl
theorem z1_13 : Cond.initialized "java/lang/Math" ∈ zB := z_t1 13 rfl rfl
theorem z1_14 : Cond.initialized "java/util/Arrays" ∈ zB := z_t1 14 rfl rfl
theorem z1_15 : Cond.classLink RL 7 RX8 ∈ zB := z_t1 15 rfl rfl
theorem z1_16 : Cond.instantiable RX8 6 ∈ zB := z_t1 16 rfl rfl
theorem z1_17 : Cond.methodLink RL 9 yX8_init ∈ zB := z_t1 17 rfl rfl
theorem z1_18 : Cond.instanceMethod yX8_init ∈ zB := z_t1 18 rfl rfl
theorem z1_19 : Cond.code yX8_init cX8_init 1 none ∈ zB := z_t1 19 rfl rfl
theorem z1_20 : Cond.methodLink RX8 1 objectInit ∈ zB := z_t1 20 rfl rfl
theorem z1_21 : Cond.instanceMethod objectInit ∈ zB := z_t1 21 rfl rfl
theorem z1_22 : Cond.code objectInit ⟨#[0xb1]⟩ 1 none ∈ zB := z_t1 22 rfl rfl
theorem z1_23 : Cond.classLink RX8 7 RX7 ∈ zB := z_t1 23 rfl rfl
theorem z1_24 : Cond.instantiable RX7 3 ∈ zB := z_t1 24 rfl rfl
theorem z1_25 : Cond.methodLink RX8 9 yX7_init ∈ zB := z_t1 25 rfl rfl
theorem z1_26 : Cond.instanceMethod yX7_init ∈ zB := z_t1 26 rfl rfl
theorem z1_27 : Cond.code yX7_init cX7_init 1 none ∈ zB := z_t1 27 rfl rfl
theorem z1_28 : Cond.methodLink RX7 1 objectInit ∈ zB := z_t1 28 rfl rfl
theorem z1_29 : Cond.classLink RX7 7 RX1 ∈ zB := z_t1 29 rfl rfl
theorem z1_30 : Cond.instantiable RX1 8 ∈ zB := z_t1 30 rfl rfl
theorem z1_31 : Cond.methodLink RX7 9 yX1_init ∈ zB := z_t1 31 rfl rfl
theorem z1_32 : Cond.instanceMethod yX1_init ∈ zB := z_t1 32 rfl rfl
theorem z1_33 : Cond.code yX1_init cX1_init 1 none ∈ zB := z_t1 33 rfl rfl
theorem z1_34 : Cond.methodLink RX1 3 objectInit ∈ zB := z_t1 34 rfl rfl
theorem z1_35 : Cond.fieldLink RX1 9 "SauceredMilk$Court" "places" "[I" ∈ zB := z_t1 35 rfl rfl
theorem z1_36 : Cond.fieldLink RX1 15 "SauceredMilk$Court" "creams" "[I" ∈ zB := z_t1 36 rfl rfl
theorem z1_37 : Cond.fieldLink RX1 31 "SauceredMilk$Court" "present" "I" ∈ zB := z_t1 37 rfl rfl
theorem z1_39 : Cond.fieldLink RX1 34 "SauceredMilk$Court" "lying" "I" ∈ zB := z_t1 39 rfl rfl
theorem z1_40 : Cond.fieldLink RX1 37 "SauceredMilk$Court" "his" "I" ∈ zB := z_t1 40 rfl rfl
theorem z1_42 : Cond.fieldLink RX1 18 "SauceredMilk$Court" "power" "I" ∈ zB := z_t1 42 rfl rfl
theorem z1_44 : Cond.fieldLink RX1 22 "SauceredMilk$Court" "spite" "I" ∈ zB := z_t1 44 rfl rfl
theorem z1_46 : Cond.fieldLink RX1 40 "SauceredMilk$Court" "hour" "I" ∈ zB := z_t1 46 rfl rfl
theorem z1_65 : Cond.arrayClass .int ∈ zB := z_t1 65 rfl rfl
theorem z1_66 : Cond.classLink RX7 16 RX6 ∈ zB := z_t1 66 rfl rfl
theorem z1_67 : Cond.instantiable RX6 2 ∈ zB := z_t1 67 rfl rfl
theorem z1_68 : Cond.methodLink RX7 18 yX6_init ∈ zB := z_t1 68 rfl rfl
theorem z1_69 : Cond.instanceMethod yX6_init ∈ zB := z_t1 69 rfl rfl
theorem z1_70 : Cond.code yX6_init cX6_init 1 none ∈ zB := z_t1 70 rfl rfl
theorem z1_71 : Cond.methodLink RX6 3 objectInit ∈ zB := z_t1 71 rfl rfl
theorem z1_72 : Cond.fieldLink RX6 9 "SauceredMilk$Town" "ways" "[I" ∈ zB := z_t1 72 rfl rfl
theorem z1_73 : Cond.fieldLink RX6 21 "SauceredMilk$Town" "milky" "I" ∈ zB := z_t1 73 rfl rfl
theorem z1_80 : Cond.classLink RX7 23 RX5 ∈ zB := z_t1 80 rfl rfl
theorem z1_81 : Cond.instantiable RX5 3 ∈ zB := z_t1 81 rfl rfl
theorem z1_82 : Cond.methodLink RX7 25 yX5_init ∈ zB := z_t1 82 rfl rfl
theorem z1_83 : Cond.instanceMethod yX5_init ∈ zB := z_t1 83 rfl rfl
theorem z1_84 : Cond.code yX5_init cX5_init 1 none ∈ zB := z_t1 84 rfl rfl
theorem z1_85 : Cond.methodLink RX5 3 objectInit ∈ zB := z_t1 85 rfl rfl
theorem z1_86 : Cond.fieldLink RX5 9 "SauceredMilk$Sights" "saucers" "[I" ∈ zB := z_t1 86 rfl rfl
theorem z1_87 : Cond.fieldLink RX5 15 "SauceredMilk$Sights" "losses" "[I" ∈ zB := z_t1 87 rfl rfl
theorem z1_88 : Cond.fieldLink RX5 24 "SauceredMilk$Sights" "count" "I" ∈ zB := z_t1 88 rfl rfl
theorem z1_97 : Cond.fieldLink RX7 10 "SauceredMilk$World" "court" "LSauceredMilk$Court;" ∈ zB := z_t1 97 rfl rfl
theorem z1_99 : Cond.fieldLink RX7 19 "SauceredMilk$World" "town" "LSauceredMilk$Town;" ∈ zB := z_t1 99 rfl rfl
theorem z1_101 : Cond.fieldLink RX7 26 "SauceredMilk$World" "sights" "LSauceredMilk$Sights;" ∈ zB := z_t1 101 rfl rfl
theorem z1_111 : Cond.classLink RX8 20 RX4 ∈ zB := z_t1 111 rfl rfl
theorem z1_112 : Cond.instantiable RX4 2 ∈ zB := z_t1 112 rfl rfl
theorem z1_113 : Cond.methodLink RX8 22 yX4_init ∈ zB := z_t1 113 rfl rfl
theorem z1_114 : Cond.instanceMethod yX4_init ∈ zB := z_t1 114 rfl rfl
theorem z1_115 : Cond.code yX4_init cX4_init 1 none ∈ zB := z_t1 115 rfl rfl
theorem z1_116 : Cond.methodLink RX4 3 objectInit ∈ zB := z_t1 116 rfl rfl
theorem z1_117 : Cond.fieldLink RX4 9 "SauceredMilk$Pad" "signs" "[C" ∈ zB := z_t1 117 rfl rfl
theorem z1_118 : Cond.fieldLink RX4 15 "SauceredMilk$Pad" "count" "I" ∈ zB := z_t1 118 rfl rfl
theorem z1_126 : Cond.arrayClass .char ∈ zB := z_t1 126 rfl rfl
theorem z1_127 : Cond.classLink RX8 27 RX3 ∈ zB := z_t1 127 rfl rfl
theorem z1_128 : Cond.instantiable RX3 5 ∈ zB := z_t1 128 rfl rfl
theorem z1_129 : Cond.methodLink RX8 29 yX3_init ∈ zB := z_t1 129 rfl rfl
theorem z1_130 : Cond.instanceMethod yX3_init ∈ zB := z_t1 130 rfl rfl
theorem z1_131 : Cond.code yX3_init cX3_init 1 none ∈ zB := z_t1 131 rfl rfl
theorem z1_132 : Cond.methodLink RX3 3 objectInit ∈ zB := z_t1 132 rfl rfl
theorem z1_133 : Cond.classLink RX3 9 RX1 ∈ zB := z_t1 133 rfl rfl
theorem z1_134 : Cond.methodLink RX3 11 yX1_init ∈ zB := z_t1 134 rfl rfl
theorem z1_135 : Cond.fieldLink RX3 12 "SauceredMilk$Hearing" "court" "LSauceredMilk$Court;" ∈ zB := z_t1 135 rfl rfl
theorem z1_137 : Cond.fieldLink RX3 62 "SauceredMilk$Hearing" "acts" "I" ∈ zB := z_t1 137 rfl rfl
theorem z1_139 : Cond.fieldLink RX3 28 "SauceredMilk$Hearing" "reason" "I" ∈ zB := z_t1 139 rfl rfl
theorem z1_141 : Cond.fieldLink RX3 65 "SauceredMilk$Hearing" "firstOffAct" "I" ∈ zB := z_t1 141 rfl rfl
theorem z1_143 : Cond.fieldLink RX3 68 "SauceredMilk$Hearing" "firstOffWitness" "I" ∈ zB := z_t1 143 rfl rfl
theorem z1_156 : Cond.classLink RX8 34 RX0 ∈ zB := z_t1 156 rfl rfl
theorem z1_157 : Cond.instantiable RX0 1 ∈ zB := z_t1 157 rfl rfl
theorem z1_158 : Cond.methodLink RX8 36 yX0_init ∈ zB := z_t1 158 rfl rfl
theorem z1_159 : Cond.instanceMethod yX0_init ∈ zB := z_t1 159 rfl rfl
theorem z1_160 : Cond.code yX0_init cX0_init 1 none ∈ zB := z_t1 160 rfl rfl
theorem z1_161 : Cond.methodLink RX0 3 objectInit ∈ zB := z_t1 161 rfl rfl
theorem z1_162 : Cond.fieldLink RX0 9 "SauceredMilk$Bowls" "fewest" "[I" ∈ zB := z_t1 162 rfl rfl
theorem z1_166 : Cond.classLink RX8 41 RX2 ∈ zB := z_t1 166 rfl rfl
theorem z1_167 : Cond.instantiable RX2 3 ∈ zB := z_t1 167 rfl rfl
theorem z1_168 : Cond.methodLink RX8 43 yX2_init ∈ zB := z_t1 168 rfl rfl
theorem z1_169 : Cond.instanceMethod yX2_init ∈ zB := z_t1 169 rfl rfl
theorem z1_170 : Cond.code yX2_init cX2_init 1 none ∈ zB := z_t1 170 rfl rfl
theorem z1_171 : Cond.methodLink RX2 3 objectInit ∈ zB := z_t1 171 rfl rfl
theorem z1_172 : Cond.fieldLink RX2 9 "SauceredMilk$Guesses" "fitting" "[I" ∈ zB := z_t1 172 rfl rfl
theorem z1_173 : Cond.fieldLink RX2 15 "SauceredMilk$Guesses" "tally" "[I" ∈ zB := z_t1 173 rfl rfl
theorem z1_174 : Cond.fieldLink RX2 18 "SauceredMilk$Guesses" "count" "I" ∈ zB := z_t1 174 rfl rfl
theorem z1_183 : Cond.fieldLink RX8 10 "SauceredMilk" "world" "LSauceredMilk$World;" ∈ zB := z_t1 183 rfl rfl
theorem z1_184 : Cond.fieldLink RX8 16 "SauceredMilk" "images" "[LSauceredMilk$World;" ∈ zB := z_t1 184 rfl rfl
theorem z1_185 : Cond.fieldLink RX8 23 "SauceredMilk" "pad" "LSauceredMilk$Pad;" ∈ zB := z_t1 185 rfl rfl
theorem z1_186 : Cond.fieldLink RX8 30 "SauceredMilk" "hearing" "LSauceredMilk$Hearing;" ∈ zB := z_t1 186 rfl rfl
theorem z1_187 : Cond.fieldLink RX8 37 "SauceredMilk" "bowls" "LSauceredMilk$Bowls;" ∈ zB := z_t1 187 rfl rfl
theorem z1_188 : Cond.fieldLink RX8 44 "SauceredMilk" "guesses" "LSauceredMilk$Guesses;" ∈ zB := z_t1 188 rfl rfl
theorem z1_202 : Cond.methodLink RL 13 yX8_witness ∈ zB := z_t1 202 rfl rfl
theorem z1_203 : Cond.instanceMethod yX8_witness ∈ zB := z_t1 203 rfl rfl
theorem z1_204 : Cond.selects RX8 yX8_witness yX8_witness ∈ zB := z_t1 204 rfl rfl
theorem z1_205 : Cond.code yX8_witness cX8_witness 5 (some .int) ∈ zB := z_t1 205 rfl rfl
theorem z1_206 : Cond.methodLink RX8 48 yX8_isWitness ∈ zB := z_t1 206 rfl rfl
theorem z1_207 : Cond.static yX8_isWitness ∈ zB := z_t1 207 rfl rfl
theorem z1_208 : Cond.code yX8_isWitness cX8_isWitness 1 (some .boolean) ∈ zB := z_t1 208 rfl rfl
theorem z1_209 : Cond.methodLink RX8 52 yX8_isPlace ∈ zB := z_t1 209 rfl rfl
theorem z1_210 : Cond.static yX8_isPlace ∈ zB := z_t1 210 rfl rfl
theorem z1_211 : Cond.code yX8_isPlace cX8_isPlace 1 (some .boolean) ∈ zB := z_t1 211 rfl rfl
theorem z1_212 : Cond.methodLink RX8 55 yX8_within ∈ zB := z_t1 212 rfl rfl
theorem z1_213 : Cond.static yX8_within ∈ zB := z_t1 213 rfl rfl
theorem z1_214 : Cond.code yX8_within cX8_within 3 (some .boolean) ∈ zB := z_t1 214 rfl rfl
theorem z1_215 : Cond.methodLink RX8 63 yX1_seat ∈ zB := z_t1 215 rfl rfl
theorem z1_216 : Cond.instanceMethod yX1_seat ∈ zB := z_t1 216 rfl rfl
theorem z1_217 : Cond.selects RX1 yX1_seat yX1_seat ∈ zB := z_t1 217 rfl rfl
theorem z1_218 : Cond.code yX1_seat cX1_seat 6 none ∈ zB := z_t1 218 rfl rfl
theorem z1_220 : Cond.methodLink RX8 73 yJ6_bitCount_0f7a4 ∈ zB := z_t1 220 rfl rfl
theorem z1_221 : Cond.static yJ6_bitCount_0f7a4 ∈ zB := z_t1 221 rfl rfl
theorem z1_222 : Cond.code yJ6_bitCount_0f7a4 cJ6_bitCount_0f7a4 1 (some .int) ∈ zB := z_t1 222 rfl rfl
theorem z1_223 : Cond.constant RJ6 265 (1431655765) ∈ zB := z_t1 223 rfl rfl
theorem z1_224 : Cond.constant RJ6 266 (858993459) ∈ zB := z_t1 224 rfl rfl
theorem z1_225 : Cond.constant RJ6 267 (252645135) ∈ zB := z_t1 225 rfl rfl
theorem z1_226 : Cond.methodLink RL 18 yX8_he ∈ zB := z_t1 226 rfl rfl
theorem z1_227 : Cond.instanceMethod yX8_he ∈ zB := z_t1 227 rfl rfl
theorem z1_228 : Cond.selects RX8 yX8_he yX8_he ∈ zB := z_t1 228 rfl rfl
theorem z1_229 : Cond.code yX8_he cX8_he 6 (some .int) ∈ zB := z_t1 229 rfl rfl
theorem z1_230 : Cond.methodLink RL 23 yX8_way ∈ zB := z_t1 230 rfl rfl
theorem z1_231 : Cond.instanceMethod yX8_way ∈ zB := z_t1 231 rfl rfl
theorem z1_232 : Cond.selects RX8 yX8_way yX8_way ∈ zB := z_t1 232 rfl rfl
theorem z1_233 : Cond.code yX8_way cX8_way 4 (some .int) ∈ zB := z_t1 233 rfl rfl
theorem z1_234 : Cond.methodLink RX8 88 yX8_isCell ∈ zB := z_t1 234 rfl rfl
theorem z1_235 : Cond.static yX8_isCell ∈ zB := z_t1 235 rfl rfl
theorem z1_236 : Cond.code yX8_isCell cX8_isCell 1 (some .boolean) ∈ zB := z_t1 236 rfl rfl
theorem z1_237 : Cond.methodLink RX8 95 yX6_lead ∈ zB := z_t1 237 rfl rfl
theorem z1_238 : Cond.instanceMethod yX6_lead ∈ zB := z_t1 238 rfl rfl
theorem z1_239 : Cond.selects RX6 yX6_lead yX6_lead ∈ zB := z_t1 239 rfl rfl
theorem z2_0 : Cond.code yX6_lead cX6_lead 4 none ∈ zB := z_t2 0 rfl rfl
theorem z2_2 : Cond.methodLink RX8 101 yX6_countWays ∈ zB := z_t2 2 rfl rfl
theorem z2_3 : Cond.instanceMethod yX6_countWays ∈ zB := z_t2 3 rfl rfl
theorem z2_4 : Cond.selects RX6 yX6_countWays yX6_countWays ∈ zB := z_t2 4 rfl rfl
theorem z2_5 : Cond.code yX6_countWays cX6_countWays 3 (some .int) ∈ zB := z_t2 5 rfl rfl
theorem z2_6 : Cond.methodLink RX6 29 yJ6_bitCount_0f7a4 ∈ zB := z_t2 6 rfl rfl
theorem z2_7 : Cond.methodLink RL 28 yX8_milk ∈ zB := z_t2 7 rfl rfl
theorem z2_8 : Cond.instanceMethod yX8_milk ∈ zB := z_t2 8 rfl rfl
theorem z2_9 : Cond.selects RX8 yX8_milk yX8_milk ∈ zB := z_t2 9 rfl rfl
theorem z2_10 : Cond.code yX8_milk cX8_milk 3 (some .int) ∈ zB := z_t2 10 rfl rfl
theorem z2_11 : Cond.methodLink RL 33 yX8_say ∈ zB := z_t2 11 rfl rfl
theorem z2_12 : Cond.instanceMethod yX8_say ∈ zB := z_t2 12 rfl rfl
theorem z2_13 : Cond.selects RX8 yX8_say yX8_say ∈ zB := z_t2 13 rfl rfl
theorem z2_14 : Cond.code yX8_say cX8_say 2 (some .int) ∈ zB := z_t2 14 rfl rfl
theorem z2_15 : Cond.methodLink RX8 111 yX4_write ∈ zB := z_t2 15 rfl rfl
theorem z2_16 : Cond.instanceMethod yX4_write ∈ zB := z_t2 16 rfl rfl
theorem z2_17 : Cond.selects RX4 yX4_write yX4_write ∈ zB := z_t2 17 rfl rfl
theorem z2_18 : Cond.code yX4_write cX4_write 2 none ∈ zB := z_t2 18 rfl rfl
theorem z2_20 : Cond.methodLink RL 37 yX8_wipe ∈ zB := z_t2 20 rfl rfl
theorem z2_21 : Cond.instanceMethod yX8_wipe ∈ zB := z_t2 21 rfl rfl
theorem z2_22 : Cond.selects RX8 yX8_wipe yX8_wipe ∈ zB := z_t2 22 rfl rfl
theorem z2_23 : Cond.code yX8_wipe cX8_wipe 2 (some .int) ∈ zB := z_t2 23 rfl rfl
theorem z2_24 : Cond.methodLink RL 42 yX8_fault ∈ zB := z_t2 24 rfl rfl
theorem z2_25 : Cond.instanceMethod yX8_fault ∈ zB := z_t2 25 rfl rfl
theorem z2_26 : Cond.selects RX8 yX8_fault yX8_fault ∈ zB := z_t2 26 rfl rfl
theorem z2_27 : Cond.code yX8_fault cX8_fault 1 (some .int) ∈ zB := z_t2 27 rfl rfl
theorem z2_28 : Cond.methodLink RX8 115 yX4_firstFault ∈ zB := z_t2 28 rfl rfl
theorem z2_29 : Cond.instanceMethod yX4_firstFault ∈ zB := z_t2 29 rfl rfl
theorem z2_30 : Cond.selects RX4 yX4_firstFault yX4_firstFault ∈ zB := z_t2 30 rfl rfl
theorem z2_31 : Cond.code yX4_firstFault cX4_firstFault 2 (some .int) ∈ zB := z_t2 31 rfl rfl
theorem z2_32 : Cond.methodLink RX4 23 yX4_isHour ∈ zB := z_t2 32 rfl rfl
theorem z2_33 : Cond.instanceMethod yX4_isHour ∈ zB := z_t2 33 rfl rfl
theorem z2_34 : Cond.selects RX4 yX4_isHour yX4_isHour ∈ zB := z_t2 34 rfl rfl
theorem z2_35 : Cond.code yX4_isHour cX4_isHour 2 (some .boolean) ∈ zB := z_t2 35 rfl rfl
theorem z2_36 : Cond.methodLink RX4 36 yX4_signAt ∈ zB := z_t2 36 rfl rfl
theorem z2_38 : Cond.instanceMethod yX4_signAt ∈ zB := z_t2 38 rfl rfl
theorem z2_39 : Cond.code yX4_signAt cX4_signAt 2 (some .char) ∈ zB := z_t2 39 rfl rfl
theorem z2_40 : Cond.methodLink RX4 27 yX4_isMove ∈ zB := z_t2 40 rfl rfl
theorem z2_42 : Cond.instanceMethod yX4_isMove ∈ zB := z_t2 42 rfl rfl
theorem z2_43 : Cond.code yX4_isMove cX4_isMove 2 (some .boolean) ∈ zB := z_t2 43 rfl rfl
theorem z2_44 : Cond.methodLink RX4 30 yX4_isLetter ∈ zB := z_t2 44 rfl rfl
theorem z2_46 : Cond.instanceMethod yX4_isLetter ∈ zB := z_t2 46 rfl rfl
theorem z2_47 : Cond.code yX4_isLetter cX4_isLetter 2 (some .boolean) ∈ zB := z_t2 47 rfl rfl
theorem z2_49 : Cond.methodLink RX4 33 yX4_canFollow ∈ zB := z_t2 49 rfl rfl
theorem z2_51 : Cond.instanceMethod yX4_canFollow ∈ zB := z_t2 51 rfl rfl
theorem z2_52 : Cond.code yX4_canFollow cX4_canFollow 3 (some .boolean) ∈ zB := z_t2 52 rfl rfl
theorem z2_53 : Cond.methodLink RL 46 yX8_judge ∈ zB := z_t2 53 rfl rfl
theorem z2_54 : Cond.instanceMethod yX8_judge ∈ zB := z_t2 54 rfl rfl
theorem z2_55 : Cond.selects RX8 yX8_judge yX8_judge ∈ zB := z_t2 55 rfl rfl
theorem z2_56 : Cond.code yX8_judge cX8_judge 2 (some .int) ∈ zB := z_t2 56 rfl rfl
theorem z2_57 : Cond.methodLink RX8 118 yX3_hear ∈ zB := z_t2 57 rfl rfl
theorem z2_58 : Cond.instanceMethod yX3_hear ∈ zB := z_t2 58 rfl rfl
theorem z2_59 : Cond.selects RX3 yX3_hear yX3_hear ∈ zB := z_t2 59 rfl rfl
theorem z2_60 : Cond.code yX3_hear cX3_hear 4 none ∈ zB := z_t2 60 rfl rfl
theorem z2_61 : Cond.methodLink RX3 18 yX3_begin ∈ zB := z_t2 61 rfl rfl
theorem z2_63 : Cond.instanceMethod yX3_begin ∈ zB := z_t2 63 rfl rfl
theorem z2_64 : Cond.code yX3_begin cX3_begin 2 none ∈ zB := z_t2 64 rfl rfl
theorem z2_65 : Cond.methodLink RX3 59 yX1_become ∈ zB := z_t2 65 rfl rfl
theorem z2_66 : Cond.instanceMethod yX1_become ∈ zB := z_t2 66 rfl rfl
theorem z2_67 : Cond.selects RX1 yX1_become yX1_become ∈ zB := z_t2 67 rfl rfl
theorem z2_68 : Cond.code yX1_become cX1_become 2 none ∈ zB := z_t2 68 rfl rfl
theorem z2_69 : Cond.methodLink RX1 25 arraycopyName ∈ zB := z_t2 69 rfl rfl
theorem z2_70 : Cond.static arraycopyName ∈ zB := z_t2 70 rfl rfl
theorem z2_71 : Cond.native arraycopyName ∈ zB := z_t2 71 rfl rfl
theorem z2_72 : Cond.methodLink RX3 22 yX4_firstFault ∈ zB := z_t2 72 rfl rfl
theorem z2_73 : Cond.methodLink RX3 35 yX4_kindAt ∈ zB := z_t2 73 rfl rfl
theorem z2_74 : Cond.instanceMethod yX4_kindAt ∈ zB := z_t2 74 rfl rfl
theorem z2_75 : Cond.selects RX4 yX4_kindAt yX4_kindAt ∈ zB := z_t2 75 rfl rfl
theorem z2_76 : Cond.code yX4_kindAt cX4_kindAt 2 (some .char) ∈ zB := z_t2 76 rfl rfl
theorem z2_77 : Cond.methodLink RX3 39 yX4_numberAt ∈ zB := z_t2 77 rfl rfl
theorem z2_78 : Cond.instanceMethod yX4_numberAt ∈ zB := z_t2 78 rfl rfl
theorem z2_79 : Cond.selects RX4 yX4_numberAt yX4_numberAt ∈ zB := z_t2 79 rfl rfl
theorem z2_80 : Cond.code yX4_numberAt cX4_numberAt 2 (some .int) ∈ zB := z_t2 80 rfl rfl
theorem z2_81 : Cond.methodLink RX3 43 yX3_take ∈ zB := z_t2 81 rfl rfl
theorem z2_83 : Cond.instanceMethod yX3_take ∈ zB := z_t2 83 rfl rfl
theorem z2_84 : Cond.code yX3_take cX3_take 4 none ∈ zB := z_t2 84 rfl rfl
theorem z2_85 : Cond.methodLink RX3 71 yX1_whyNot ∈ zB := z_t2 85 rfl rfl
theorem z2_86 : Cond.instanceMethod yX1_whyNot ∈ zB := z_t2 86 rfl rfl
theorem z2_87 : Cond.selects RX1 yX1_whyNot yX1_whyNot ∈ zB := z_t2 87 rfl rfl
theorem z2_88 : Cond.code yX1_whyNot cX1_whyNot 3 (some .int) ∈ zB := z_t2 88 rfl rfl
theorem z2_90 : Cond.methodLink RX1 47 yX1_has ∈ zB := z_t2 90 rfl rfl
theorem z2_91 : Cond.instanceMethod yX1_has ∈ zB := z_t2 91 rfl rfl
theorem z2_92 : Cond.selects RX1 yX1_has yX1_has ∈ zB := z_t2 92 rfl rfl
theorem z2_93 : Cond.code yX1_has cX1_has 2 (some .boolean) ∈ zB := z_t2 93 rfl rfl
theorem z2_94 : Cond.methodLink RX1 64 yX1_whyNotTo ∈ zB := z_t2 94 rfl rfl
theorem z2_96 : Cond.instanceMethod yX1_whyNotTo ∈ zB := z_t2 96 rfl rfl
theorem z2_97 : Cond.code yX1_whyNotTo cX1_whyNotTo 4 (some .int) ∈ zB := z_t2 97 rfl rfl
theorem z2_98 : Cond.methodLink RX1 68 yX1_creamOf ∈ zB := z_t2 98 rfl rfl
theorem z2_99 : Cond.instanceMethod yX1_creamOf ∈ zB := z_t2 99 rfl rfl
theorem z2_100 : Cond.selects RX1 yX1_creamOf yX1_creamOf ∈ zB := z_t2 100 rfl rfl
theorem z2_101 : Cond.code yX1_creamOf cX1_creamOf 2 (some .int) ∈ zB := z_t2 101 rfl rfl
theorem z2_102 : Cond.methodLink RX1 50 yX1_placesOff ∈ zB := z_t2 102 rfl rfl
theorem z2_104 : Cond.instanceMethod yX1_placesOff ∈ zB := z_t2 104 rfl rfl
theorem z2_105 : Cond.code yX1_placesOff cX1_placesOff 2 (some .int) ∈ zB := z_t2 105 rfl rfl
theorem z2_106 : Cond.methodLink RX1 91 Lib.Math.abs.name ∈ zB := z_t2 106 rfl rfl
theorem z2_107 : Cond.static Lib.Math.abs.name ∈ zB := z_t2 107 rfl rfl
theorem z2_108 : Cond.code Lib.Math.abs.name Lib.Math.abs.code 1 (some .int) ∈ zB := z_t2 108 rfl rfl
theorem z2_109 : Cond.methodLink RX3 74 yX1_offOnes ∈ zB := z_t2 109 rfl rfl
theorem z2_110 : Cond.instanceMethod yX1_offOnes ∈ zB := z_t2 110 rfl rfl
theorem z2_111 : Cond.selects RX1 yX1_offOnes yX1_offOnes ∈ zB := z_t2 111 rfl rfl
theorem z2_112 : Cond.code yX1_offOnes cX1_offOnes 3 (some .int) ∈ zB := z_t2 112 rfl rfl
theorem z2_113 : Cond.methodLink RX3 77 yX1_act ∈ zB := z_t2 113 rfl rfl
theorem z2_114 : Cond.instanceMethod yX1_act ∈ zB := z_t2 114 rfl rfl
theorem z2_115 : Cond.selects RX1 yX1_act yX1_act ∈ zB := z_t2 115 rfl rfl
theorem z2_116 : Cond.code yX1_act cX1_act 3 none ∈ zB := z_t2 116 rfl rfl
theorem z2_117 : Cond.methodLink RX1 71 yX1_passHour ∈ zB := z_t2 117 rfl rfl
theorem z2_119 : Cond.instanceMethod yX1_passHour ∈ zB := z_t2 119 rfl rfl
theorem z2_120 : Cond.code yX1_passHour cX1_passHour 2 none ∈ zB := z_t2 120 rfl rfl
theorem z2_121 : Cond.methodLink RX1 82 yX1_lossInAnHour ∈ zB := z_t2 121 rfl rfl
theorem z2_122 : Cond.instanceMethod yX1_lossInAnHour ∈ zB := z_t2 122 rfl rfl
theorem z2_123 : Cond.selects RX1 yX1_lossInAnHour yX1_lossInAnHour ∈ zB := z_t2 123 rfl rfl
theorem z2_124 : Cond.code yX1_lossInAnHour cX1_lossInAnHour 2 (some .int) ∈ zB := z_t2 124 rfl rfl
theorem z2_125 : Cond.methodLink RX1 54 yX1_isLiar ∈ zB := z_t2 125 rfl rfl
theorem z2_126 : Cond.instanceMethod yX1_isLiar ∈ zB := z_t2 126 rfl rfl
theorem z2_127 : Cond.selects RX1 yX1_isLiar yX1_isLiar ∈ zB := z_t2 127 rfl rfl
theorem z2_128 : Cond.code yX1_isLiar cX1_isLiar 2 (some .boolean) ∈ zB := z_t2 128 rfl rfl
theorem z2_130 : Cond.static yX8_lossAt ∈ zB := z_t2 130 rfl rfl
theorem z2_131 : Cond.code yX8_lossAt cX8_lossAt 4 (some .int) ∈ zB := z_t2 131 rfl rfl
theorem z2_132 : Cond.methodLink RX1 74 yX1_spoil ∈ zB := z_t2 132 rfl rfl
theorem z2_134 : Cond.instanceMethod yX1_spoil ∈ zB := z_t2 134 rfl rfl
theorem z2_135 : Cond.code yX1_spoil cX1_spoil 3 none ∈ zB := z_t2 135 rfl rfl
theorem z2_136 : Cond.methodLink RX1 85 Lib.Math.max.name ∈ zB := z_t2 136 rfl rfl
theorem z2_137 : Cond.static Lib.Math.max.name ∈ zB := z_t2 137 rfl rfl
theorem z2_138 : Cond.code Lib.Math.max.name Lib.Math.max.code 2 (some .int) ∈ zB := z_t2 138 rfl rfl
theorem z2_139 : Cond.methodLink RX1 78 yX1_refill ∈ zB := z_t2 139 rfl rfl
theorem z2_141 : Cond.instanceMethod yX1_refill ∈ zB := z_t2 141 rfl rfl
theorem z2_142 : Cond.code yX1_refill cX1_refill 2 none ∈ zB := z_t2 142 rfl rfl
theorem z2_143 : Cond.methodLink RX3 80 yX3_noteOff ∈ zB := z_t2 143 rfl rfl
theorem z2_145 : Cond.instanceMethod yX3_noteOff ∈ zB := z_t2 145 rfl rfl
theorem z2_146 : Cond.code yX3_noteOff cX3_noteOff 2 none ∈ zB := z_t2 146 rfl rfl
theorem z2_147 : Cond.methodLink RX3 84 yJ6_numberOfTrailingZeros_0f7a4 ∈ zB := z_t2 147 rfl rfl
theorem z2_148 : Cond.static yJ6_numberOfTrailingZeros_0f7a4 ∈ zB := z_t2 148 rfl rfl
theorem z2_149 : Cond.code yJ6_numberOfTrailingZeros_0f7a4 cJ6_numberOfTrailingZeros_0f7a4 2 (some .int) ∈ zB := z_t2 149 rfl rfl
theorem z2_150 : Cond.constant RJ6 264 (65536) ∈ zB := z_t2 150 rfl rfl
theorem z2_151 : Cond.methodLink RX3 47 yX4_isHour ∈ zB := z_t2 151 rfl rfl
theorem z2_152 : Cond.methodLink RL 50 yX8_done ∈ zB := z_t2 152 rfl rfl
theorem z2_153 : Cond.instanceMethod yX8_done ∈ zB := z_t2 153 rfl rfl
theorem z2_154 : Cond.selects RX8 yX8_done yX8_done ∈ zB := z_t2 154 rfl rfl
theorem z2_155 : Cond.code yX8_done cX8_done 1 (some .int) ∈ zB := z_t2 155 rfl rfl
theorem z2_156 : Cond.methodLink RX8 129 yX1_become ∈ zB := z_t2 156 rfl rfl
theorem z2_157 : Cond.methodLink RL 54 yX8_behind ∈ zB := z_t2 157 rfl rfl
theorem z2_158 : Cond.instanceMethod yX8_behind ∈ zB := z_t2 158 rfl rfl
theorem z2_159 : Cond.selects RX8 yX8_behind yX8_behind ∈ zB := z_t2 159 rfl rfl
theorem z2_160 : Cond.code yX8_behind cX8_behind 3 (some .int) ∈ zB := z_t2 160 rfl rfl
theorem z2_161 : Cond.methodLink RX8 133 yX1_has ∈ zB := z_t2 161 rfl rfl
theorem z2_162 : Cond.methodLink RX8 136 yX1_creamOf ∈ zB := z_t2 162 rfl rfl
theorem z2_163 : Cond.methodLink RX8 139 yX1_isLiar ∈ zB := z_t2 163 rfl rfl
theorem z2_164 : Cond.methodLink RX8 142 yX8_asNumber ∈ zB := z_t2 164 rfl rfl
theorem z2_165 : Cond.static yX8_asNumber ∈ zB := z_t2 165 rfl rfl
theorem z2_166 : Cond.code yX8_asNumber cX8_asNumber 1 (some .int) ∈ zB := z_t2 166 rfl rfl
theorem z2_167 : Cond.methodLink RL 59 yX8_then ∈ zB := z_t2 167 rfl rfl
theorem z2_168 : Cond.instanceMethod yX8_then ∈ zB := z_t2 168 rfl rfl
theorem z2_169 : Cond.selects RX8 yX8_then yX8_then ∈ zB := z_t2 169 rfl rfl
theorem z2_170 : Cond.code yX8_then cX8_then 4 (some .int) ∈ zB := z_t2 170 rfl rfl
theorem z2_171 : Cond.methodLink RX8 146 yX1_offOnes ∈ zB := z_t2 171 rfl rfl
theorem z2_172 : Cond.methodLink RX8 149 yX1_liars ∈ zB := z_t2 172 rfl rfl
theorem z2_173 : Cond.instanceMethod yX1_liars ∈ zB := z_t2 173 rfl rfl
theorem z2_174 : Cond.selects RX1 yX1_liars yX1_liars ∈ zB := z_t2 174 rfl rfl
theorem z2_175 : Cond.code yX1_liars cX1_liars 1 (some .int) ∈ zB := z_t2 175 rfl rfl
theorem z2_176 : Cond.methodLink RL 63 yX8_lasts ∈ zB := z_t2 176 rfl rfl
theorem z2_177 : Cond.instanceMethod yX8_lasts ∈ zB := z_t2 177 rfl rfl
theorem z2_178 : Cond.selects RX8 yX8_lasts yX8_lasts ∈ zB := z_t2 178 rfl rfl
theorem z2_179 : Cond.code yX8_lasts cX8_lasts 5 (some .int) ∈ zB := z_t2 179 rfl rfl
theorem z2_180 : Cond.methodLink RX8 161 yX1_lossInAnHour ∈ zB := z_t2 180 rfl rfl
theorem z2_181 : Cond.methodLink RL 67 yX8_trials ∈ zB := z_t2 181 rfl rfl
theorem z2_182 : Cond.instanceMethod yX8_trials ∈ zB := z_t2 182 rfl rfl
theorem z2_183 : Cond.selects RX8 yX8_trials yX8_trials ∈ zB := z_t2 183 rfl rfl
theorem z2_184 : Cond.code yX8_trials cX8_trials 4 (some .int) ∈ zB := z_t2 184 rfl rfl
theorem z2_185 : Cond.methodLink RX8 164 yX0_weigh ∈ zB := z_t2 185 rfl rfl
theorem z2_186 : Cond.instanceMethod yX0_weigh ∈ zB := z_t2 186 rfl rfl
theorem z2_187 : Cond.selects RX0 yX0_weigh yX0_weigh ∈ zB := z_t2 187 rfl rfl
theorem z2_188 : Cond.code yX0_weigh cX0_weigh 6 none ∈ zB := z_t2 188 rfl rfl
theorem z2_189 : Cond.methodLink RX0 15 yX0_withFirst ∈ zB := z_t2 189 rfl rfl
theorem z2_191 : Cond.instanceMethod yX0_withFirst ∈ zB := z_t2 191 rfl rfl
theorem z2_192 : Cond.code yX0_withFirst cX0_withFirst 3 (some .int) ∈ zB := z_t2 192 rfl rfl
theorem z2_193 : Cond.methodLink RX0 28 yX0_fewestFor ∈ zB := z_t2 193 rfl rfl
theorem z2_194 : Cond.instanceMethod yX0_fewestFor ∈ zB := z_t2 194 rfl rfl
theorem z2_195 : Cond.selects RX0 yX0_fewestFor yX0_fewestFor ∈ zB := z_t2 195 rfl rfl
theorem z2_196 : Cond.code yX0_fewestFor cX0_fewestFor 2 (some .int) ∈ zB := z_t2 196 rfl rfl
theorem z2_198 : Cond.methodLink RX0 32 Lib.Math.max.name ∈ zB := z_t2 198 rfl rfl
theorem z2_199 : Cond.methodLink RX0 19 Lib.Math.min.name ∈ zB := z_t2 199 rfl rfl
theorem z2_200 : Cond.static Lib.Math.min.name ∈ zB := z_t2 200 rfl rfl
theorem z2_201 : Cond.code Lib.Math.min.name Lib.Math.min.code 2 (some .int) ∈ zB := z_t2 201 rfl rfl
theorem z2_202 : Cond.methodLink RX8 168 yX0_fewestFor ∈ zB := z_t2 202 rfl rfl
theorem z2_203 : Cond.methodLink RX8 171 yX0_leastFirst ∈ zB := z_t2 203 rfl rfl
theorem z2_204 : Cond.instanceMethod yX0_leastFirst ∈ zB := z_t2 204 rfl rfl
theorem z2_205 : Cond.selects RX0 yX0_leastFirst yX0_leastFirst ∈ zB := z_t2 205 rfl rfl
theorem z2_206 : Cond.code yX0_leastFirst cX0_leastFirst 4 (some .int) ∈ zB := z_t2 206 rfl rfl
theorem z2_207 : Cond.methodLink RL 71 yX8_round ∈ zB := z_t2 207 rfl rfl
theorem z2_208 : Cond.instanceMethod yX8_round ∈ zB := z_t2 208 rfl rfl
theorem z2_209 : Cond.selects RX8 yX8_round yX8_round ∈ zB := z_t2 209 rfl rfl
theorem z2_210 : Cond.code yX8_round cX8_round 5 (some .int) ∈ zB := z_t2 210 rfl rfl
theorem z2_211 : Cond.methodLink RX8 175 yX6_safeCells ∈ zB := z_t2 211 rfl rfl
theorem z2_212 : Cond.instanceMethod yX6_safeCells ∈ zB := z_t2 212 rfl rfl
theorem z2_213 : Cond.selects RX6 yX6_safeCells yX6_safeCells ∈ zB := z_t2 213 rfl rfl
theorem z2_214 : Cond.code yX6_safeCells cX6_safeCells 2 (some .int) ∈ zB := z_t2 214 rfl rfl
theorem z2_215 : Cond.methodLink RX6 35 yX6_besideAny ∈ zB := z_t2 215 rfl rfl
theorem z2_217 : Cond.instanceMethod yX6_besideAny ∈ zB := z_t2 217 rfl rfl
theorem z2_218 : Cond.code yX6_besideAny cX6_besideAny 4 (some .int) ∈ zB := z_t2 218 rfl rfl
theorem z2_219 : Cond.methodLink RX8 178 yX6_steps ∈ zB := z_t2 219 rfl rfl
theorem z2_220 : Cond.instanceMethod yX6_steps ∈ zB := z_t2 220 rfl rfl
theorem z2_221 : Cond.selects RX6 yX6_steps yX6_steps ∈ zB := z_t2 221 rfl rfl
theorem z2_222 : Cond.code yX6_steps cX6_steps 7 (some .int) ∈ zB := z_t2 222 rfl rfl
theorem z2_223 : Cond.methodLink RX8 182 yX6_firstCell ∈ zB := z_t2 223 rfl rfl
theorem z2_224 : Cond.instanceMethod yX6_firstCell ∈ zB := z_t2 224 rfl rfl
theorem z2_225 : Cond.selects RX6 yX6_firstCell yX6_firstCell ∈ zB := z_t2 225 rfl rfl
theorem z2_226 : Cond.code yX6_firstCell cX6_firstCell 7 (some .int) ∈ zB := z_t2 226 rfl rfl
theorem z2_227 : Cond.methodLink RX6 38 yX6_steps ∈ zB := z_t2 227 rfl rfl
theorem z2_228 : Cond.methodLink RX6 42 yX6_waysFrom ∈ zB := z_t2 228 rfl rfl
theorem z2_229 : Cond.instanceMethod yX6_waysFrom ∈ zB := z_t2 229 rfl rfl
theorem z2_230 : Cond.selects RX6 yX6_waysFrom yX6_waysFrom ∈ zB := z_t2 230 rfl rfl
theorem z2_231 : Cond.code yX6_waysFrom cX6_waysFrom 2 (some .int) ∈ zB := z_t2 231 rfl rfl
theorem z2_232 : Cond.methodLink RL 75 yX8_shun ∈ zB := z_t2 232 rfl rfl
theorem z2_233 : Cond.instanceMethod yX8_shun ∈ zB := z_t2 233 rfl rfl
theorem z2_234 : Cond.selects RX8 yX8_shun yX8_shun ∈ zB := z_t2 234 rfl rfl
theorem z2_235 : Cond.code yX8_shun cX8_shun 5 (some .int) ∈ zB := z_t2 235 rfl rfl
theorem z2_236 : Cond.methodLink RX8 185 yX6_fewestToEmpty ∈ zB := z_t2 236 rfl rfl
theorem z2_237 : Cond.instanceMethod yX6_fewestToEmpty ∈ zB := z_t2 237 rfl rfl
theorem z2_238 : Cond.selects RX6 yX6_fewestToEmpty yX6_fewestToEmpty ∈ zB := z_t2 238 rfl rfl
theorem z2_239 : Cond.code yX6_fewestToEmpty cX6_fewestToEmpty 7 (some .int) ∈ zB := z_t2 239 rfl rfl
theorem z3_0 : Cond.methodLink RX6 45 yX6_safeCells ∈ zB := z_t3 0 rfl rfl
theorem z3_1 : Cond.methodLink RL 79 yX8_apart ∈ zB := z_t3 1 rfl rfl
theorem z3_2 : Cond.instanceMethod yX8_apart ∈ zB := z_t3 2 rfl rfl
theorem z3_3 : Cond.selects RX8 yX8_apart yX8_apart ∈ zB := z_t3 3 rfl rfl
theorem z3_4 : Cond.code yX8_apart cX8_apart 3 (some .int) ∈ zB := z_t3 4 rfl rfl
theorem z3_5 : Cond.methodLink RX8 188 yX8_countRows ∈ zB := z_t3 5 rfl rfl
theorem z3_6 : Cond.static yX8_countRows ∈ zB := z_t3 6 rfl rfl
theorem z3_7 : Cond.code yX8_countRows cX8_countRows 2 (some .int) ∈ zB := z_t3 7 rfl rfl
theorem z3_8 : Cond.methodLink RX8 196 yX8_choose ∈ zB := z_t3 8 rfl rfl
theorem z3_9 : Cond.static yX8_choose ∈ zB := z_t3 9 rfl rfl
theorem z3_10 : Cond.code yX8_choose cX8_choose 5 (some .int) ∈ zB := z_t3 10 rfl rfl
theorem z3_11 : Cond.constant RX8 191 (1000007) ∈ zB := z_t3 11 rfl rfl
theorem z3_12 : Cond.methodLink RL 83 yX8_row ∈ zB := z_t3 12 rfl rfl
theorem z3_13 : Cond.instanceMethod yX8_row ∈ zB := z_t3 13 rfl rfl
theorem z3_14 : Cond.selects RX8 yX8_row yX8_row ∈ zB := z_t3 14 rfl rfl
theorem z3_15 : Cond.code yX8_row cX8_row 4 (some .int) ∈ zB := z_t3 15 rfl rfl
theorem z3_16 : Cond.constant RX8 192 (99999) ∈ zB := z_t3 16 rfl rfl
theorem z3_17 : Cond.methodLink RX8 193 yX8_nthRow ∈ zB := z_t3 17 rfl rfl
theorem z3_18 : Cond.static yX8_nthRow ∈ zB := z_t3 18 rfl rfl
theorem z3_19 : Cond.code yX8_nthRow cX8_nthRow 8 (some .int) ∈ zB := z_t3 19 rfl rfl
theorem z3_20 : Cond.methodLink RL 87 yX8_seen ∈ zB := z_t3 20 rfl rfl
theorem z3_21 : Cond.instanceMethod yX8_seen ∈ zB := z_t3 21 rfl rfl
theorem z3_22 : Cond.selects RX8 yX8_seen yX8_seen ∈ zB := z_t3 22 rfl rfl
theorem z3_23 : Cond.code yX8_seen cX8_seen 4 (some .int) ∈ zB := z_t3 23 rfl rfl
theorem z3_24 : Cond.methodLink RX8 206 yX5_keep ∈ zB := z_t3 24 rfl rfl
theorem z3_25 : Cond.instanceMethod yX5_keep ∈ zB := z_t3 25 rfl rfl
theorem z3_26 : Cond.selects RX5 yX5_keep yX5_keep ∈ zB := z_t3 26 rfl rfl
theorem z3_27 : Cond.code yX5_keep cX5_keep 3 none ∈ zB := z_t3 27 rfl rfl
theorem z3_29 : Cond.methodLink RL 92 yX8_forget ∈ zB := z_t3 29 rfl rfl
theorem z3_30 : Cond.instanceMethod yX8_forget ∈ zB := z_t3 30 rfl rfl
theorem z3_31 : Cond.selects RX8 yX8_forget yX8_forget ∈ zB := z_t3 31 rfl rfl
theorem z3_32 : Cond.code yX8_forget cX8_forget 2 (some .int) ∈ zB := z_t3 32 rfl rfl
theorem z3_33 : Cond.methodLink RL 96 yX8_so ∈ zB := z_t3 33 rfl rfl
theorem z3_34 : Cond.instanceMethod yX8_so ∈ zB := z_t3 34 rfl rfl
theorem z3_35 : Cond.selects RX8 yX8_so yX8_so ∈ zB := z_t3 35 rfl rfl
theorem z3_36 : Cond.code yX8_so cX8_so 2 (some .int) ∈ zB := z_t3 36 rfl rfl
theorem z3_37 : Cond.methodLink RX8 209 yX2_gather ∈ zB := z_t3 37 rfl rfl
theorem z3_38 : Cond.instanceMethod yX2_gather ∈ zB := z_t3 38 rfl rfl
theorem z3_39 : Cond.selects RX2 yX2_gather yX2_gather ∈ zB := z_t3 39 rfl rfl
theorem z3_40 : Cond.code yX2_gather cX2_gather 3 none ∈ zB := z_t3 40 rfl rfl
theorem z3_41 : Cond.methodLink RX2 22 yX5_allowGuess ∈ zB := z_t3 41 rfl rfl
theorem z3_42 : Cond.instanceMethod yX5_allowGuess ∈ zB := z_t3 42 rfl rfl
theorem z3_43 : Cond.selects RX5 yX5_allowGuess yX5_allowGuess ∈ zB := z_t3 43 rfl rfl
theorem z3_44 : Cond.code yX5_allowGuess cX5_allowGuess 3 (some .boolean) ∈ zB := z_t3 44 rfl rfl
theorem z3_45 : Cond.methodLink RX5 32 yX5_lossIf ∈ zB := z_t3 45 rfl rfl
theorem z3_46 : Cond.static yX5_lossIf ∈ zB := z_t3 46 rfl rfl
theorem z3_47 : Cond.code yX5_lossIf cX5_lossIf 2 (some .int) ∈ zB := z_t3 47 rfl rfl
theorem z3_49 : Cond.methodLink RX8 214 yX2_guessAt ∈ zB := z_t3 49 rfl rfl
theorem z3_50 : Cond.instanceMethod yX2_guessAt ∈ zB := z_t3 50 rfl rfl
theorem z3_51 : Cond.selects RX2 yX2_guessAt yX2_guessAt ∈ zB := z_t3 51 rfl rfl
theorem z3_52 : Cond.code yX2_guessAt cX2_guessAt 2 (some .int) ∈ zB := z_t3 52 rfl rfl
theorem z3_53 : Cond.methodLink RL 100 yX8_ask ∈ zB := z_t3 53 rfl rfl
theorem z3_54 : Cond.instanceMethod yX8_ask ∈ zB := z_t3 54 rfl rfl
theorem z3_55 : Cond.selects RX8 yX8_ask yX8_ask ∈ zB := z_t3 55 rfl rfl
theorem z3_56 : Cond.code yX8_ask cX8_ask 3 (some .int) ∈ zB := z_t3 56 rfl rfl
theorem z3_57 : Cond.methodLink RX8 217 yX2_bestSaucer ∈ zB := z_t3 57 rfl rfl
theorem z3_58 : Cond.instanceMethod yX2_bestSaucer ∈ zB := z_t3 58 rfl rfl
theorem z3_59 : Cond.selects RX2 yX2_bestSaucer yX2_bestSaucer ∈ zB := z_t3 59 rfl rfl
theorem z3_60 : Cond.code yX2_bestSaucer cX2_bestSaucer 4 (some .int) ∈ zB := z_t3 60 rfl rfl
theorem z3_61 : Cond.methodLink RX2 28 yX2_leftAtMost ∈ zB := z_t3 61 rfl rfl
theorem z3_62 : Cond.instanceMethod yX2_leftAtMost ∈ zB := z_t3 62 rfl rfl
theorem z3_63 : Cond.selects RX2 yX2_leftAtMost yX2_leftAtMost ∈ zB := z_t3 63 rfl rfl
theorem z3_64 : Cond.code yX2_leftAtMost cX2_leftAtMost 5 (some .int) ∈ zB := z_t3 64 rfl rfl
theorem z3_65 : Cond.methodLink RX2 32 yJ7_fill_53178 ∈ zB := z_t3 65 rfl rfl
theorem z3_66 : Cond.static yJ7_fill_53178 ∈ zB := z_t3 66 rfl rfl
theorem z3_67 : Cond.code yJ7_fill_53178 cJ7_fill_53178 4 none ∈ zB := z_t3 67 rfl rfl
theorem z3_68 : Cond.methodLink RX2 38 yX5_lossIf ∈ zB := z_t3 68 rfl rfl
theorem z3_70 : Cond.methodLink RX2 46 Lib.Math.max.name ∈ zB := z_t3 70 rfl rfl
theorem z3_71 : Cond.methodLink RX8 220 yX2_leftAtMost ∈ zB := z_t3 71 rfl rfl
theorem z3_72 : Cond.methodLink RL 104 yX8_jugs ∈ zB := z_t3 72 rfl rfl
theorem z3_73 : Cond.instanceMethod yX8_jugs ∈ zB := z_t3 73 rfl rfl
theorem z3_74 : Cond.selects RX8 yX8_jugs yX8_jugs ∈ zB := z_t3 74 rfl rfl
theorem z3_75 : Cond.code yX8_jugs cX8_jugs 5 (some .int) ∈ zB := z_t3 75 rfl rfl
theorem z3_76 : Cond.methodLink RX8 223 Lib.Math.max.name ∈ zB := z_t3 76 rfl rfl
theorem z3_77 : Cond.methodLink RX8 228 Lib.Math.min.name ∈ zB := z_t3 77 rfl rfl
theorem z3_78 : Cond.methodLink RX8 231 yX8_leastWinningTimes ∈ zB := z_t3 78 rfl rfl
theorem z3_79 : Cond.static yX8_leastWinningTimes ∈ zB := z_t3 79 rfl rfl
theorem z3_80 : Cond.code yX8_leastWinningTimes cX8_leastWinningTimes 4 (some .int) ∈ zB := z_t3 80 rfl rfl
theorem z3_81 : Cond.methodLink RX8 262 yX8_nextWins ∈ zB := z_t3 81 rfl rfl
theorem z3_82 : Cond.static yX8_nextWins ∈ zB := z_t3 82 rfl rfl
theorem z3_83 : Cond.code yX8_nextWins cX8_nextWins 7 (some .boolean) ∈ zB := z_t3 83 rfl rfl
theorem z3_84 : Cond.methodLink RL 108 yX8_odds ∈ zB := z_t3 84 rfl rfl
theorem z3_85 : Cond.instanceMethod yX8_odds ∈ zB := z_t3 85 rfl rfl
theorem z3_86 : Cond.selects RX8 yX8_odds yX8_odds ∈ zB := z_t3 86 rfl rfl
theorem z3_87 : Cond.code yX8_odds cX8_odds 12 (some .long) ∈ zB := z_t3 87 rfl rfl
theorem z3_88 : Cond.constantLong RX8 234 (-1000000000000000002) ∈ zB := z_t3 88 rfl rfl
theorem z3_89 : Cond.methodLink RX8 236 yX8_power ∈ zB := z_t3 89 rfl rfl
theorem z3_90 : Cond.static yX8_power ∈ zB := z_t3 90 rfl rfl
theorem z3_91 : Cond.code yX8_power cX8_power 5 (some .long) ∈ zB := z_t3 91 rfl rfl
theorem z3_92 : Cond.methodLink RX8 239 yX8_commonDivisor ∈ zB := z_t3 92 rfl rfl
theorem z3_93 : Cond.static yX8_commonDivisor ∈ zB := z_t3 93 rfl rfl
theorem z3_94 : Cond.code yX8_commonDivisor cX8_commonDivisor 11 (some .long) ∈ zB := z_t3 94 rfl rfl
theorem z3_95 : Cond.methodLink RL 113 yX8_year ∈ zB := z_t3 95 rfl rfl
theorem z3_96 : Cond.instanceMethod yX8_year ∈ zB := z_t3 96 rfl rfl
theorem z3_97 : Cond.selects RX8 yX8_year yX8_year ∈ zB := z_t3 97 rfl rfl
theorem z3_98 : Cond.code yX8_year cX8_year 5 (some .int) ∈ zB := z_t3 98 rfl rfl
theorem z3_99 : Cond.methodLink RX8 243 yX3_draw ∈ zB := z_t3 99 rfl rfl
theorem z3_100 : Cond.instanceMethod yX3_draw ∈ zB := z_t3 100 rfl rfl
theorem z3_101 : Cond.selects RX3 yX3_draw yX3_draw ∈ zB := z_t3 101 rfl rfl
theorem z3_102 : Cond.code yX3_draw cX3_draw 7 none ∈ zB := z_t3 102 rfl rfl
theorem z3_103 : Cond.constant RX3 51 (65537) ∈ zB := z_t3 103 rfl rfl
theorem z3_104 : Cond.methodLink RX3 52 yX3_drawnKind ∈ zB := z_t3 104 rfl rfl
theorem z3_105 : Cond.static yX3_drawnKind ∈ zB := z_t3 105 rfl rfl
theorem z3_106 : Cond.code yX3_drawnKind cX3_drawnKind 1 (some .char) ∈ zB := z_t3 106 rfl rfl
theorem z3_107 : Cond.methodLink RX3 55 yX3_drawnNumber ∈ zB := z_t3 107 rfl rfl
theorem z3_108 : Cond.static yX3_drawnNumber ∈ zB := z_t3 108 rfl rfl
theorem z3_109 : Cond.code yX3_drawnNumber cX3_drawnNumber 2 (some .int) ∈ zB := z_t3 109 rfl rfl
theorem z3_110 : Cond.methodLink RX8 247 yX1_creamInAll ∈ zB := z_t3 110 rfl rfl
theorem z3_111 : Cond.instanceMethod yX1_creamInAll ∈ zB := z_t3 111 rfl rfl
theorem z3_112 : Cond.selects RX1 yX1_creamInAll yX1_creamInAll ∈ zB := z_t3 112 rfl rfl
theorem z3_113 : Cond.code yX1_creamInAll cX1_creamInAll 3 (some .int) ∈ zB := z_t3 113 rfl rfl
theorem z3_114 : Cond.methodLink RL 117 yX8_image ∈ zB := z_t3 114 rfl rfl
theorem z3_115 : Cond.instanceMethod yX8_image ∈ zB := z_t3 115 rfl rfl
theorem z3_116 : Cond.selects RX8 yX8_image yX8_image ∈ zB := z_t3 116 rfl rfl
theorem z3_117 : Cond.code yX8_image cX8_image 3 (some .int) ∈ zB := z_t3 117 rfl rfl
theorem z3_118 : Cond.methodLink RX8 250 yX7_become ∈ zB := z_t3 118 rfl rfl
theorem z3_119 : Cond.instanceMethod yX7_become ∈ zB := z_t3 119 rfl rfl
theorem z3_120 : Cond.selects RX7 yX7_become yX7_become ∈ zB := z_t3 120 rfl rfl
theorem z3_121 : Cond.code yX7_become cX7_become 2 none ∈ zB := z_t3 121 rfl rfl
theorem z3_122 : Cond.methodLink RX7 30 yX1_become ∈ zB := z_t3 122 rfl rfl
theorem z3_123 : Cond.methodLink RX7 34 yX6_become ∈ zB := z_t3 123 rfl rfl
theorem z3_124 : Cond.instanceMethod yX6_become ∈ zB := z_t3 124 rfl rfl
theorem z3_125 : Cond.selects RX6 yX6_become yX6_become ∈ zB := z_t3 125 rfl rfl
theorem z3_126 : Cond.code yX6_become cX6_become 2 none ∈ zB := z_t3 126 rfl rfl
theorem z3_127 : Cond.methodLink RX6 15 arraycopyName ∈ zB := z_t3 127 rfl rfl
theorem z3_128 : Cond.methodLink RX7 37 yX5_become ∈ zB := z_t3 128 rfl rfl
theorem z3_129 : Cond.instanceMethod yX5_become ∈ zB := z_t3 129 rfl rfl
theorem z3_130 : Cond.selects RX5 yX5_become yX5_become ∈ zB := z_t3 130 rfl rfl
theorem z3_131 : Cond.code yX5_become cX5_become 2 none ∈ zB := z_t3 131 rfl rfl
theorem z3_132 : Cond.methodLink RX5 18 arraycopyName ∈ zB := z_t3 132 rfl rfl
theorem z3_133 : Cond.methodLink RL 121 yX8_restore ∈ zB := z_t3 133 rfl rfl
theorem z3_134 : Cond.instanceMethod yX8_restore ∈ zB := z_t3 134 rfl rfl
theorem z3_135 : Cond.selects RX8 yX8_restore yX8_restore ∈ zB := z_t3 135 rfl rfl
theorem z3_136 : Cond.code yX8_restore cX8_restore 3 (some .int) ∈ zB := z_t3 136 rfl rfl
theorem z3_137 : Cond.methodLink RL 125 yX8_told ∈ zB := z_t3 137 rfl rfl
theorem z3_138 : Cond.instanceMethod yX8_told ∈ zB := z_t3 138 rfl rfl
theorem z3_139 : Cond.selects RX8 yX8_told yX8_told ∈ zB := z_t3 139 rfl rfl
theorem z3_140 : Cond.code yX8_told cX8_told 2 (some .int) ∈ zB := z_t3 140 rfl rfl
theorem z3_141 : Cond.methodLink RX8 253 yX6_waysFrom ∈ zB := z_t3 141 rfl rfl
theorem z3_142 : Cond.methodLink RX8 256 yX8_toldOfWitness ∈ zB := z_t3 142 rfl rfl
theorem z3_144 : Cond.instanceMethod yX8_toldOfWitness ∈ zB := z_t3 144 rfl rfl
theorem z3_145 : Cond.code yX8_toldOfWitness cX8_toldOfWitness 4 (some .int) ∈ zB := z_t3 145 rfl rfl
theorem z3_146 : Cond.methodLink RX8 259 yX1_placeOf ∈ zB := z_t3 146 rfl rfl
theorem z3_147 : Cond.instanceMethod yX1_placeOf ∈ zB := z_t3 147 rfl rfl
theorem z3_148 : Cond.selects RX1 yX1_placeOf yX1_placeOf ∈ zB := z_t3 148 rfl rfl
theorem z3_149 : Cond.code yX1_placeOf cX1_placeOf 2 (some .int) ∈ zB := z_t3 149 rfl rfl
theorem z3_150 : Cond.classLink RL 10 RX9 ∈ zB := z_t3 150 rfl rfl
theorem z3_151 : Cond.instantiable RX9 21 ∈ zB := z_t3 151 rfl rfl
theorem z3_152 : Cond.methodLink RL 12 yX9_init ∈ zB := z_t3 152 rfl rfl
theorem z3_153 : Cond.instanceMethod yX9_init ∈ zB := z_t3 153 rfl rfl
theorem z3_154 : Cond.code yX9_init cX9_init 1 none ∈ zB := z_t3 154 rfl rfl
theorem z3_155 : Cond.methodLink RX9 1 objectInit ∈ zB := z_t3 155 rfl rfl
theorem z3_156 : Cond.fieldLink RX9 7 "SauceredMilkModel" "book" "[I" ∈ zB := z_t3 156 rfl rfl
theorem z3_157 : Cond.fieldLink RX9 13 "SauceredMilkModel" "now" "[I" ∈ zB := z_t3 157 rfl rfl
theorem z3_158 : Cond.fieldLink RX9 16 "SauceredMilkModel" "places" "[I" ∈ zB := z_t3 158 rfl rfl
theorem z3_159 : Cond.fieldLink RX9 19 "SauceredMilkModel" "power" "I" ∈ zB := z_t3 159 rfl rfl
theorem z3_160 : Cond.fieldLink RX9 23 "SauceredMilkModel" "spite" "I" ∈ zB := z_t3 160 rfl rfl
theorem z3_161 : Cond.fieldLink RX9 26 "SauceredMilkModel" "ways" "[I" ∈ zB := z_t3 161 rfl rfl
theorem z3_162 : Cond.fieldLink RX9 70 "SauceredMilkModel" "milky" "I" ∈ zB := z_t3 162 rfl rfl
theorem z3_163 : Cond.fieldLink RX9 156 "SauceredMilkModel" "sights" "I" ∈ zB := z_t3 163 rfl rfl
theorem z3_164 : Cond.fieldLink RX9 29 "SauceredMilkModel" "sight" "[I" ∈ zB := z_t3 164 rfl rfl
theorem z3_165 : Cond.fieldLink RX9 73 "SauceredMilkModel" "signs" "I" ∈ zB := z_t3 165 rfl rfl
theorem z3_166 : Cond.fieldLink RX9 32 "SauceredMilkModel" "pad" "[I" ∈ zB := z_t3 166 rfl rfl
theorem z3_167 : Cond.fieldLink RX9 80 "SauceredMilkModel" "offAt" "I" ∈ zB := z_t3 167 rfl rfl
theorem z3_168 : Cond.fieldLink RX9 83 "SauceredMilkModel" "offWho" "I" ∈ zB := z_t3 168 rfl rfl
theorem z3_169 : Cond.fieldLink RX9 123 "SauceredMilkModel" "reason" "I" ∈ zB := z_t3 169 rfl rfl
theorem z3_170 : Cond.fieldLink RX9 114 "SauceredMilkModel" "acts" "I" ∈ zB := z_t3 170 rfl rfl
theorem z3_171 : Cond.fieldLink RX9 35 "SauceredMilkModel" "enough" "[I" ∈ zB := z_t3 171 rfl rfl
theorem z3_172 : Cond.fieldLink RX9 38 "SauceredMilkModel" "rows" "[I" ∈ zB := z_t3 172 rfl rfl
theorem z3_173 : Cond.fieldLink RX9 41 "SauceredMilkModel" "counts" "[I" ∈ zB := z_t3 173 rfl rfl
theorem z3_174 : Cond.fieldLink RX9 44 "SauceredMilkModel" "pours" "[I" ∈ zB := z_t3 174 rfl rfl
theorem z3_175 : Cond.fieldLink RX9 47 "SauceredMilkModel" "image" "[I" ∈ zB := z_t3 175 rfl rfl
theorem z3_176 : Cond.fieldLink RX9 50 "SauceredMilkModel" "isKept" "[Z" ∈ zB := z_t3 176 rfl rfl
theorem z3_220 : Cond.arrayClass .boolean ∈ zB := z_t3 220 rfl rfl
theorem z3_221 : Cond.methodLink RL 17 yX9_witness ∈ zB := z_t3 221 rfl rfl
theorem z3_222 : Cond.instanceMethod yX9_witness ∈ zB := z_t3 222 rfl rfl
theorem z3_223 : Cond.selects RX9 yX9_witness yX9_witness ∈ zB := z_t3 223 rfl rfl
theorem z3_224 : Cond.code yX9_witness cX9_witness 5 (some .int) ∈ zB := z_t3 224 rfl rfl
theorem z3_225 : Cond.methodLink RX9 54 yX9_in ∈ zB := z_t3 225 rfl rfl
theorem z3_226 : Cond.static yX9_in ∈ zB := z_t3 226 rfl rfl
theorem z3_227 : Cond.code yX9_in cX9_in 3 (some .boolean) ∈ zB := z_t3 227 rfl rfl
theorem z3_228 : Cond.methodLink RX9 62 yX9_bits ∈ zB := z_t3 228 rfl rfl
theorem z3_229 : Cond.static yX9_bits ∈ zB := z_t3 229 rfl rfl
theorem z3_230 : Cond.code yX9_bits cX9_bits 3 (some .int) ∈ zB := z_t3 230 rfl rfl
theorem z3_231 : Cond.methodLink RL 22 yX9_he ∈ zB := z_t3 231 rfl rfl
theorem z3_232 : Cond.instanceMethod yX9_he ∈ zB := z_t3 232 rfl rfl
theorem z3_233 : Cond.selects RX9 yX9_he yX9_he ∈ zB := z_t3 233 rfl rfl
theorem z3_234 : Cond.code yX9_he cX9_he 5 (some .int) ∈ zB := z_t3 234 rfl rfl
theorem z3_235 : Cond.methodLink RL 27 yX9_way ∈ zB := z_t3 235 rfl rfl
theorem z3_236 : Cond.instanceMethod yX9_way ∈ zB := z_t3 236 rfl rfl
theorem z3_237 : Cond.selects RX9 yX9_way yX9_way ∈ zB := z_t3 237 rfl rfl
theorem z3_238 : Cond.code yX9_way cX9_way 6 (some .int) ∈ zB := z_t3 238 rfl rfl
theorem z3_239 : Cond.methodLink RX9 66 yX9_isCell ∈ zB := z_t3 239 rfl rfl
theorem z4_0 : Cond.static yX9_isCell ∈ zB := z_t4 0 rfl rfl
theorem z4_1 : Cond.code yX9_isCell cX9_isCell 1 (some .boolean) ∈ zB := z_t4 1 rfl rfl
theorem z4_2 : Cond.methodLink RL 32 yX9_milk ∈ zB := z_t4 2 rfl rfl
theorem z4_3 : Cond.instanceMethod yX9_milk ∈ zB := z_t4 3 rfl rfl
theorem z4_4 : Cond.selects RX9 yX9_milk yX9_milk ∈ zB := z_t4 4 rfl rfl
theorem z4_5 : Cond.code yX9_milk cX9_milk 3 (some .int) ∈ zB := z_t4 5 rfl rfl
theorem z4_6 : Cond.methodLink RL 36 yX9_say ∈ zB := z_t4 6 rfl rfl
theorem z4_7 : Cond.instanceMethod yX9_say ∈ zB := z_t4 7 rfl rfl
theorem z4_8 : Cond.selects RX9 yX9_say yX9_say ∈ zB := z_t4 8 rfl rfl
theorem z4_9 : Cond.code yX9_say cX9_say 2 (some .int) ∈ zB := z_t4 9 rfl rfl
theorem z4_10 : Cond.methodLink RL 41 yX9_wipe ∈ zB := z_t4 10 rfl rfl
theorem z4_11 : Cond.instanceMethod yX9_wipe ∈ zB := z_t4 11 rfl rfl
theorem z4_12 : Cond.selects RX9 yX9_wipe yX9_wipe ∈ zB := z_t4 12 rfl rfl
theorem z4_13 : Cond.code yX9_wipe cX9_wipe 2 (some .int) ∈ zB := z_t4 13 rfl rfl
theorem z4_14 : Cond.methodLink RL 45 yX9_fault ∈ zB := z_t4 14 rfl rfl
theorem z4_15 : Cond.instanceMethod yX9_fault ∈ zB := z_t4 15 rfl rfl
theorem z4_16 : Cond.selects RX9 yX9_fault yX9_fault ∈ zB := z_t4 16 rfl rfl
theorem z4_17 : Cond.code yX9_fault cX9_fault 1 (some .int) ∈ zB := z_t4 17 rfl rfl
theorem z4_18 : Cond.methodLink RX9 76 yX9_faultOf ∈ zB := z_t4 18 rfl rfl
theorem z4_20 : Cond.instanceMethod yX9_faultOf ∈ zB := z_t4 20 rfl rfl
theorem z4_21 : Cond.code yX9_faultOf cX9_faultOf 7 (some .int) ∈ zB := z_t4 21 rfl rfl
theorem z4_22 : Cond.methodLink RL 49 yX9_judge ∈ zB := z_t4 22 rfl rfl
theorem z4_23 : Cond.instanceMethod yX9_judge ∈ zB := z_t4 23 rfl rfl
theorem z4_24 : Cond.selects RX9 yX9_judge yX9_judge ∈ zB := z_t4 24 rfl rfl
theorem z4_25 : Cond.code yX9_judge cX9_judge 3 (some .int) ∈ zB := z_t4 25 rfl rfl
theorem z4_26 : Cond.methodLink RX9 133 yX9_goTerms ∈ zB := z_t4 26 rfl rfl
theorem z4_28 : Cond.instanceMethod yX9_goTerms ∈ zB := z_t4 28 rfl rfl
theorem z4_29 : Cond.code yX9_goTerms cX9_goTerms 6 (some .int) ∈ zB := z_t4 29 rfl rfl
theorem z4_30 : Cond.methodLink RX9 111 yX9_asNow ∈ zB := z_t4 30 rfl rfl
theorem z4_32 : Cond.instanceMethod yX9_asNow ∈ zB := z_t4 32 rfl rfl
theorem z4_33 : Cond.code yX9_asNow cX9_asNow 2 none ∈ zB := z_t4 33 rfl rfl
theorem z4_34 : Cond.methodLink RX9 117 yX9_offOnes ∈ zB := z_t4 34 rfl rfl
theorem z4_36 : Cond.instanceMethod yX9_offOnes ∈ zB := z_t4 36 rfl rfl
theorem z4_37 : Cond.code yX9_offOnes cX9_offOnes 3 (some .int) ∈ zB := z_t4 37 rfl rfl
theorem z4_38 : Cond.methodLink RX9 86 yX9_sits ∈ zB := z_t4 38 rfl rfl
theorem z4_40 : Cond.instanceMethod yX9_sits ∈ zB := z_t4 40 rfl rfl
theorem z4_41 : Cond.code yX9_sits cX9_sits 2 (some .boolean) ∈ zB := z_t4 41 rfl rfl
theorem z4_42 : Cond.methodLink RX9 58 yX9_has ∈ zB := z_t4 42 rfl rfl
theorem z4_43 : Cond.static yX9_has ∈ zB := z_t4 43 rfl rfl
theorem z4_44 : Cond.code yX9_has cX9_has 2 (some .boolean) ∈ zB := z_t4 44 rfl rfl
theorem z4_45 : Cond.methodLink RX9 120 yX9_endHour ∈ zB := z_t4 45 rfl rfl
theorem z4_47 : Cond.instanceMethod yX9_endHour ∈ zB := z_t4 47 rfl rfl
theorem z4_48 : Cond.code yX9_endHour cX9_endHour 2 (some .int) ∈ zB := z_t4 48 rfl rfl
theorem z4_49 : Cond.methodLink RX9 96 yX9_hourly ∈ zB := z_t4 49 rfl rfl
theorem z4_51 : Cond.instanceMethod yX9_hourly ∈ zB := z_t4 51 rfl rfl
theorem z4_52 : Cond.code yX9_hourly cX9_hourly 3 (some .int) ∈ zB := z_t4 52 rfl rfl
theorem z4_53 : Cond.methodLink RX9 89 yX9_farFrom ∈ zB := z_t4 53 rfl rfl
theorem z4_55 : Cond.instanceMethod yX9_farFrom ∈ zB := z_t4 55 rfl rfl
theorem z4_56 : Cond.code yX9_farFrom cX9_farFrom 2 (some .int) ∈ zB := z_t4 56 rfl rfl
theorem z4_57 : Cond.methodLink RX9 92 yX9_lose ∈ zB := z_t4 57 rfl rfl
theorem z4_59 : Cond.instanceMethod yX9_lose ∈ zB := z_t4 59 rfl rfl
theorem z4_60 : Cond.code yX9_lose cX9_lose 3 none ∈ zB := z_t4 60 rfl rfl
theorem z4_61 : Cond.methodLink RX9 126 yX9_step ∈ zB := z_t4 61 rfl rfl
theorem z4_63 : Cond.instanceMethod yX9_step ∈ zB := z_t4 63 rfl rfl
theorem z4_64 : Cond.code yX9_step cX9_step 2 (some .int) ∈ zB := z_t4 64 rfl rfl
theorem z4_65 : Cond.methodLink RX9 129 yX9_witnessAct ∈ zB := z_t4 65 rfl rfl
theorem z4_67 : Cond.instanceMethod yX9_witnessAct ∈ zB := z_t4 67 rfl rfl
theorem z4_68 : Cond.code yX9_witnessAct cX9_witnessAct 3 (some .int) ∈ zB := z_t4 68 rfl rfl
theorem z4_69 : Cond.methodLink RX9 99 yX9_bend ∈ zB := z_t4 69 rfl rfl
theorem z4_71 : Cond.instanceMethod yX9_bend ∈ zB := z_t4 71 rfl rfl
theorem z4_72 : Cond.code yX9_bend cX9_bend 2 (some .int) ∈ zB := z_t4 72 rfl rfl
theorem z4_73 : Cond.methodLink RX9 102 yX9_fill ∈ zB := z_t4 73 rfl rfl
theorem z4_75 : Cond.instanceMethod yX9_fill ∈ zB := z_t4 75 rfl rfl
theorem z4_76 : Cond.code yX9_fill cX9_fill 2 (some .int) ∈ zB := z_t4 76 rfl rfl
theorem z4_77 : Cond.methodLink RX9 105 yX9_thinkAgain ∈ zB := z_t4 77 rfl rfl
theorem z4_79 : Cond.instanceMethod yX9_thinkAgain ∈ zB := z_t4 79 rfl rfl
theorem z4_80 : Cond.code yX9_thinkAgain cX9_thinkAgain 2 (some .int) ∈ zB := z_t4 80 rfl rfl
theorem z4_81 : Cond.methodLink RX9 108 yX9_letGo ∈ zB := z_t4 81 rfl rfl
theorem z4_83 : Cond.instanceMethod yX9_letGo ∈ zB := z_t4 83 rfl rfl
theorem z4_84 : Cond.code yX9_letGo cX9_letGo 2 (some .int) ∈ zB := z_t4 84 rfl rfl
theorem z4_85 : Cond.methodLink RL 53 yX9_done ∈ zB := z_t4 85 rfl rfl
theorem z4_86 : Cond.instanceMethod yX9_done ∈ zB := z_t4 86 rfl rfl
theorem z4_87 : Cond.selects RX9 yX9_done yX9_done ∈ zB := z_t4 87 rfl rfl
theorem z4_88 : Cond.code yX9_done cX9_done 2 (some .int) ∈ zB := z_t4 88 rfl rfl
theorem z4_89 : Cond.methodLink RX9 136 yX9_barOfTerms ∈ zB := z_t4 89 rfl rfl
theorem z4_91 : Cond.instanceMethod yX9_barOfTerms ∈ zB := z_t4 91 rfl rfl
theorem z4_92 : Cond.code yX9_barOfTerms cX9_barOfTerms 1 (some .int) ∈ zB := z_t4 92 rfl rfl
theorem z4_93 : Cond.methodLink RL 58 yX9_behind ∈ zB := z_t4 93 rfl rfl
theorem z4_94 : Cond.instanceMethod yX9_behind ∈ zB := z_t4 94 rfl rfl
theorem z4_95 : Cond.selects RX9 yX9_behind yX9_behind ∈ zB := z_t4 95 rfl rfl
theorem z4_96 : Cond.code yX9_behind cX9_behind 3 (some .int) ∈ zB := z_t4 96 rfl rfl
theorem z4_97 : Cond.methodLink RX9 139 yX9_isThere ∈ zB := z_t4 97 rfl rfl
theorem z4_99 : Cond.instanceMethod yX9_isThere ∈ zB := z_t4 99 rfl rfl
theorem z4_100 : Cond.code yX9_isThere cX9_isThere 2 (some .boolean) ∈ zB := z_t4 100 rfl rfl
theorem z4_101 : Cond.methodLink RL 62 yX9_then ∈ zB := z_t4 101 rfl rfl
theorem z4_102 : Cond.instanceMethod yX9_then ∈ zB := z_t4 102 rfl rfl
theorem z4_103 : Cond.selects RX9 yX9_then yX9_then ∈ zB := z_t4 103 rfl rfl
theorem z4_104 : Cond.code yX9_then cX9_then 3 (some .int) ∈ zB := z_t4 104 rfl rfl
theorem z4_105 : Cond.methodLink RL 66 yX9_lasts ∈ zB := z_t4 105 rfl rfl
theorem z4_106 : Cond.instanceMethod yX9_lasts ∈ zB := z_t4 106 rfl rfl
theorem z4_107 : Cond.selects RX9 yX9_lasts yX9_lasts ∈ zB := z_t4 107 rfl rfl
theorem z4_108 : Cond.code yX9_lasts cX9_lasts 3 (some .int) ∈ zB := z_t4 108 rfl rfl
theorem z4_109 : Cond.methodLink RL 70 yX9_trials ∈ zB := z_t4 109 rfl rfl
theorem z4_110 : Cond.instanceMethod yX9_trials ∈ zB := z_t4 110 rfl rfl
theorem z4_111 : Cond.selects RX9 yX9_trials yX9_trials ∈ zB := z_t4 111 rfl rfl
theorem z4_112 : Cond.code yX9_trials cX9_trials 9 (some .int) ∈ zB := z_t4 112 rfl rfl
theorem z4_113 : Cond.constant RX9 142 (1000000) ∈ zB := z_t4 113 rfl rfl
theorem z4_114 : Cond.methodLink RL 74 yX9_round ∈ zB := z_t4 114 rfl rfl
theorem z4_115 : Cond.instanceMethod yX9_round ∈ zB := z_t4 115 rfl rfl
theorem z4_116 : Cond.selects RX9 yX9_round yX9_round ∈ zB := z_t4 116 rfl rfl
theorem z4_117 : Cond.code yX9_round cX9_round 7 (some .int) ∈ zB := z_t4 117 rfl rfl
theorem z4_118 : Cond.methodLink RX9 143 yX9_freeCells ∈ zB := z_t4 118 rfl rfl
theorem z4_120 : Cond.instanceMethod yX9_freeCells ∈ zB := z_t4 120 rfl rfl
theorem z4_121 : Cond.code yX9_freeCells cX9_freeCells 4 (some .int) ∈ zB := z_t4 121 rfl rfl
theorem z4_122 : Cond.methodLink RX9 146 yX9_stepsBy ∈ zB := z_t4 122 rfl rfl
theorem z4_124 : Cond.instanceMethod yX9_stepsBy ∈ zB := z_t4 124 rfl rfl
theorem z4_125 : Cond.code yX9_stepsBy cX9_stepsBy 8 (some .int) ∈ zB := z_t4 125 rfl rfl
theorem z4_126 : Cond.methodLink RL 78 yX9_shun ∈ zB := z_t4 126 rfl rfl
theorem z4_127 : Cond.instanceMethod yX9_shun ∈ zB := z_t4 127 rfl rfl
theorem z4_128 : Cond.selects RX9 yX9_shun yX9_shun ∈ zB := z_t4 128 rfl rfl
theorem z4_129 : Cond.code yX9_shun cX9_shun 7 (some .int) ∈ zB := z_t4 129 rfl rfl
theorem z4_130 : Cond.methodLink RL 82 yX9_apart ∈ zB := z_t4 130 rfl rfl
theorem z4_131 : Cond.instanceMethod yX9_apart ∈ zB := z_t4 131 rfl rfl
theorem z4_132 : Cond.selects RX9 yX9_apart yX9_apart ∈ zB := z_t4 132 rfl rfl
theorem z4_133 : Cond.code yX9_apart cX9_apart 3 (some .int) ∈ zB := z_t4 133 rfl rfl
theorem z4_134 : Cond.methodLink RX9 151 yX9_layRows ∈ zB := z_t4 134 rfl rfl
theorem z4_136 : Cond.instanceMethod yX9_layRows ∈ zB := z_t4 136 rfl rfl
theorem z4_137 : Cond.code yX9_layRows cX9_layRows 5 none ∈ zB := z_t4 137 rfl rfl
theorem z4_138 : Cond.constant RX9 150 (1000007) ∈ zB := z_t4 138 rfl rfl
theorem z4_139 : Cond.methodLink RL 86 yX9_row ∈ zB := z_t4 139 rfl rfl
theorem z4_140 : Cond.instanceMethod yX9_row ∈ zB := z_t4 140 rfl rfl
theorem z4_141 : Cond.selects RX9 yX9_row yX9_row ∈ zB := z_t4 141 rfl rfl
theorem z4_142 : Cond.code yX9_row cX9_row 9 (some .int) ∈ zB := z_t4 142 rfl rfl
theorem z4_143 : Cond.constant RX9 155 (99999) ∈ zB := z_t4 143 rfl rfl
theorem z4_144 : Cond.methodLink RL 91 yX9_seen ∈ zB := z_t4 144 rfl rfl
theorem z4_145 : Cond.instanceMethod yX9_seen ∈ zB := z_t4 145 rfl rfl
theorem z4_146 : Cond.selects RX9 yX9_seen yX9_seen ∈ zB := z_t4 146 rfl rfl
theorem z4_147 : Cond.code yX9_seen cX9_seen 4 (some .int) ∈ zB := z_t4 147 rfl rfl
theorem z4_148 : Cond.methodLink RL 95 yX9_forget ∈ zB := z_t4 148 rfl rfl
theorem z4_149 : Cond.instanceMethod yX9_forget ∈ zB := z_t4 149 rfl rfl
theorem z4_150 : Cond.selects RX9 yX9_forget yX9_forget ∈ zB := z_t4 150 rfl rfl
theorem z4_151 : Cond.code yX9_forget cX9_forget 2 (some .int) ∈ zB := z_t4 151 rfl rfl
theorem z4_152 : Cond.methodLink RL 99 yX9_so ∈ zB := z_t4 152 rfl rfl
theorem z4_153 : Cond.instanceMethod yX9_so ∈ zB := z_t4 153 rfl rfl
theorem z4_154 : Cond.selects RX9 yX9_so yX9_so ∈ zB := z_t4 154 rfl rfl
theorem z4_155 : Cond.code yX9_so cX9_so 4 (some .int) ∈ zB := z_t4 155 rfl rfl
theorem z4_156 : Cond.methodLink RX9 162 yX9_isFit ∈ zB := z_t4 156 rfl rfl
theorem z4_158 : Cond.instanceMethod yX9_isFit ∈ zB := z_t4 158 rfl rfl
theorem z4_159 : Cond.code yX9_isFit cX9_isFit 4 (some .boolean) ∈ zB := z_t4 159 rfl rfl
theorem z4_160 : Cond.methodLink RX9 159 yX9_lossOf ∈ zB := z_t4 160 rfl rfl
theorem z4_161 : Cond.static yX9_lossOf ∈ zB := z_t4 161 rfl rfl
theorem z4_162 : Cond.code yX9_lossOf cX9_lossOf 3 (some .int) ∈ zB := z_t4 162 rfl rfl
theorem z4_163 : Cond.methodLink RL 103 yX9_ask ∈ zB := z_t4 163 rfl rfl
theorem z4_164 : Cond.instanceMethod yX9_ask ∈ zB := z_t4 164 rfl rfl
theorem z4_165 : Cond.selects RX9 yX9_ask yX9_ask ∈ zB := z_t4 165 rfl rfl
theorem z4_166 : Cond.code yX9_ask cX9_ask 9 (some .int) ∈ zB := z_t4 166 rfl rfl
theorem z4_167 : Cond.methodLink RL 107 yX9_jugs ∈ zB := z_t4 167 rfl rfl
theorem z4_168 : Cond.instanceMethod yX9_jugs ∈ zB := z_t4 168 rfl rfl
theorem z4_169 : Cond.selects RX9 yX9_jugs yX9_jugs ∈ zB := z_t4 169 rfl rfl
theorem z4_170 : Cond.code yX9_jugs cX9_jugs 12 (some .int) ∈ zB := z_t4 170 rfl rfl
theorem z4_171 : Cond.methodLink RL 112 yX9_odds ∈ zB := z_t4 171 rfl rfl
theorem z4_172 : Cond.instanceMethod yX9_odds ∈ zB := z_t4 172 rfl rfl
theorem z4_173 : Cond.selects RX9 yX9_odds yX9_odds ∈ zB := z_t4 173 rfl rfl
theorem z4_174 : Cond.code yX9_odds cX9_odds 18 (some .long) ∈ zB := z_t4 174 rfl rfl
theorem z4_175 : Cond.constantLong RX9 165 (-1000000000000000002) ∈ zB := z_t4 175 rfl rfl
theorem z4_176 : Cond.constantLong RX9 167 (10) ∈ zB := z_t4 176 rfl rfl
theorem z4_177 : Cond.methodLink RL 116 yX9_year ∈ zB := z_t4 177 rfl rfl
theorem z4_178 : Cond.instanceMethod yX9_year ∈ zB := z_t4 178 rfl rfl
theorem z4_179 : Cond.selects RX9 yX9_year yX9_year ∈ zB := z_t4 179 rfl rfl
theorem z4_180 : Cond.code yX9_year cX9_year 7 (some .int) ∈ zB := z_t4 180 rfl rfl
theorem z4_181 : Cond.constant RX9 169 (65537) ∈ zB := z_t4 181 rfl rfl
theorem z4_182 : Cond.methodLink RL 120 yX9_image ∈ zB := z_t4 182 rfl rfl
theorem z4_183 : Cond.instanceMethod yX9_image ∈ zB := z_t4 183 rfl rfl
theorem z4_184 : Cond.selects RX9 yX9_image yX9_image ∈ zB := z_t4 184 rfl rfl
theorem z4_185 : Cond.code yX9_image cX9_image 4 (some .int) ∈ zB := z_t4 185 rfl rfl
theorem z4_186 : Cond.methodLink RL 124 yX9_restore ∈ zB := z_t4 186 rfl rfl
theorem z4_187 : Cond.instanceMethod yX9_restore ∈ zB := z_t4 187 rfl rfl
theorem z4_188 : Cond.selects RX9 yX9_restore yX9_restore ∈ zB := z_t4 188 rfl rfl
theorem z4_189 : Cond.code yX9_restore cX9_restore 4 (some .int) ∈ zB := z_t4 189 rfl rfl
theorem z4_190 : Cond.methodLink RL 128 yX9_told ∈ zB := z_t4 190 rfl rfl
theorem z4_191 : Cond.instanceMethod yX9_told ∈ zB := z_t4 191 rfl rfl
theorem z4_192 : Cond.selects RX9 yX9_told yX9_told ∈ zB := z_t4 192 rfl rfl
theorem z4_193 : Cond.code yX9_told cX9_told 4 (some .int) ∈ zB := z_t4 193 rfl rfl
theorem zp_0 : Cond.selects RX4 yX4_signAt yX4_signAt ∈ zB := z_tp 0 rfl rfl
theorem zp_1 : Cond.selects RX4 yX4_isMove yX4_isMove ∈ zB := z_tp 1 rfl rfl
theorem zp_2 : Cond.selects RX4 yX4_isLetter yX4_isLetter ∈ zB := z_tp 2 rfl rfl
theorem zp_3 : Cond.selects RX4 yX4_canFollow yX4_canFollow ∈ zB := z_tp 3 rfl rfl
theorem zp_4 : Cond.selects RX3 yX3_begin yX3_begin ∈ zB := z_tp 4 rfl rfl
theorem zp_5 : Cond.selects RX3 yX3_take yX3_take ∈ zB := z_tp 5 rfl rfl
theorem zp_6 : Cond.selects RX1 yX1_whyNotTo yX1_whyNotTo ∈ zB := z_tp 6 rfl rfl
theorem zp_7 : Cond.selects RX1 yX1_placesOff yX1_placesOff ∈ zB := z_tp 7 rfl rfl
theorem zp_8 : Cond.selects RX1 yX1_passHour yX1_passHour ∈ zB := z_tp 8 rfl rfl
theorem zp_9 : Cond.selects RX1 yX1_spoil yX1_spoil ∈ zB := z_tp 9 rfl rfl
theorem zp_10 : Cond.selects RX1 yX1_refill yX1_refill ∈ zB := z_tp 10 rfl rfl
theorem zp_11 : Cond.selects RX3 yX3_noteOff yX3_noteOff ∈ zB := z_tp 11 rfl rfl
theorem zp_12 : Cond.selects RX0 yX0_withFirst yX0_withFirst ∈ zB := z_tp 12 rfl rfl
theorem zp_13 : Cond.selects RX6 yX6_besideAny yX6_besideAny ∈ zB := z_tp 13 rfl rfl
theorem zp_14 : Cond.selects RX8 yX8_toldOfWitness yX8_toldOfWitness ∈ zB := z_tp 14 rfl rfl
theorem zp_15 : Cond.selects RX9 yX9_faultOf yX9_faultOf ∈ zB := z_tp 15 rfl rfl
theorem zp_16 : Cond.selects RX9 yX9_goTerms yX9_goTerms ∈ zB := z_tp 16 rfl rfl
theorem zp_17 : Cond.selects RX9 yX9_asNow yX9_asNow ∈ zB := z_tp 17 rfl rfl
theorem zp_18 : Cond.selects RX9 yX9_offOnes yX9_offOnes ∈ zB := z_tp 18 rfl rfl
theorem zp_19 : Cond.selects RX9 yX9_sits yX9_sits ∈ zB := z_tp 19 rfl rfl
theorem zp_20 : Cond.selects RX9 yX9_endHour yX9_endHour ∈ zB := z_tp 20 rfl rfl
theorem zp_21 : Cond.selects RX9 yX9_hourly yX9_hourly ∈ zB := z_tp 21 rfl rfl
theorem zp_22 : Cond.selects RX9 yX9_farFrom yX9_farFrom ∈ zB := z_tp 22 rfl rfl
theorem zp_23 : Cond.selects RX9 yX9_lose yX9_lose ∈ zB := z_tp 23 rfl rfl
theorem zp_24 : Cond.selects RX9 yX9_step yX9_step ∈ zB := z_tp 24 rfl rfl
theorem zp_25 : Cond.selects RX9 yX9_witnessAct yX9_witnessAct ∈ zB := z_tp 25 rfl rfl
theorem zp_26 : Cond.selects RX9 yX9_bend yX9_bend ∈ zB := z_tp 26 rfl rfl
theorem zp_27 : Cond.selects RX9 yX9_fill yX9_fill ∈ zB := z_tp 27 rfl rfl
theorem zp_28 : Cond.selects RX9 yX9_thinkAgain yX9_thinkAgain ∈ zB := z_tp 28 rfl rfl
theorem zp_29 : Cond.selects RX9 yX9_letGo yX9_letGo ∈ zB := z_tp 29 rfl rfl
theorem zp_30 : Cond.selects RX9 yX9_barOfTerms yX9_barOfTerms ∈ zB := z_tp 30 rfl rfl
theorem zp_31 : Cond.selects RX9 yX9_isThere yX9_isThere ∈ zB := z_tp 31 rfl rfl
theorem zp_32 : Cond.selects RX9 yX9_freeCells yX9_freeCells ∈ zB := z_tp 32 rfl rfl
theorem zp_33 : Cond.selects RX9 yX9_stepsBy yX9_stepsBy ∈ zB := z_tp 33 rfl rfl
theorem zp_34 : Cond.selects RX9 yX9_layRows yX9_layRows ∈ zB := z_tp 34 rfl rfl
theorem zp_35 : Cond.selects RX9 yX9_isFit yX9_isFit ∈ zB := z_tp 35 rfl rfl
theorem hX_X0 : ∀ w ∈ u_ws RX0 TX0 1, w ∈ zB := by
  intro w hw
  obtain ⟨k, hk, rfl⟩ := List.mem_map.mp hw
  have hk := List.mem_range.mp hk
  match k, hk with
  | 0, _ => exact z_t1 163 rfl rfl
  | k + 1, h => exact absurd h (by omega)
theorem hX_X1 : ∀ w ∈ u_ws RX1 TX1 8, w ∈ zB := by
  intro w hw
  obtain ⟨k, hk, rfl⟩ := List.mem_map.mp hw
  have hk := List.mem_range.mp hk
  match k, hk with
  | 0, _ => exact z_t1 48 rfl rfl
  | 1, _ => exact z_t1 50 rfl rfl
  | 2, _ => exact z_t1 52 rfl rfl
  | 3, _ => exact z_t1 54 rfl rfl
  | 4, _ => exact z_t1 56 rfl rfl
  | 5, _ => exact z_t1 58 rfl rfl
  | 6, _ => exact z_t1 60 rfl rfl
  | 7, _ => exact z_t1 62 rfl rfl
  | k + 8, h => exact absurd h (by omega)
theorem hX_X2 : ∀ w ∈ u_ws RX2 TX2 3, w ∈ zB := by
  intro w hw
  obtain ⟨k, hk, rfl⟩ := List.mem_map.mp hw
  have hk := List.mem_range.mp hk
  match k, hk with
  | 0, _ => exact z_t1 176 rfl rfl
  | 1, _ => exact z_t1 178 rfl rfl
  | 2, _ => exact z_t1 180 rfl rfl
  | k + 3, h => exact absurd h (by omega)
theorem hX_X3 : ∀ w ∈ u_ws RX3 TX3 5, w ∈ zB := by
  intro w hw
  obtain ⟨k, hk, rfl⟩ := List.mem_map.mp hw
  have hk := List.mem_range.mp hk
  match k, hk with
  | 0, _ => exact z_t1 145 rfl rfl
  | 1, _ => exact z_t1 147 rfl rfl
  | 2, _ => exact z_t1 149 rfl rfl
  | 3, _ => exact z_t1 151 rfl rfl
  | 4, _ => exact z_t1 153 rfl rfl
  | k + 5, h => exact absurd h (by omega)
theorem hX_X4 : ∀ w ∈ u_ws RX4 TX4 2, w ∈ zB := by
  intro w hw
  obtain ⟨k, hk, rfl⟩ := List.mem_map.mp hw
  have hk := List.mem_range.mp hk
  match k, hk with
  | 0, _ => exact z_t1 121 rfl rfl
  | 1, _ => exact z_t1 123 rfl rfl
  | k + 2, h => exact absurd h (by omega)
theorem hX_X5 : ∀ w ∈ u_ws RX5 TX5 3, w ∈ zB := by
  intro w hw
  obtain ⟨k, hk, rfl⟩ := List.mem_map.mp hw
  have hk := List.mem_range.mp hk
  match k, hk with
  | 0, _ => exact z_t1 90 rfl rfl
  | 1, _ => exact z_t1 92 rfl rfl
  | 2, _ => exact z_t1 94 rfl rfl
  | k + 3, h => exact absurd h (by omega)
theorem hX_X6 : ∀ w ∈ u_ws RX6 TX6 2, w ∈ zB := by
  intro w hw
  obtain ⟨k, hk, rfl⟩ := List.mem_map.mp hw
  have hk := List.mem_range.mp hk
  match k, hk with
  | 0, _ => exact z_t1 75 rfl rfl
  | 1, _ => exact z_t1 77 rfl rfl
  | k + 2, h => exact absurd h (by omega)
theorem hX_X7 : ∀ w ∈ u_ws RX7 TX7 3, w ∈ zB := by
  intro w hw
  obtain ⟨k, hk, rfl⟩ := List.mem_map.mp hw
  have hk := List.mem_range.mp hk
  match k, hk with
  | 0, _ => exact z_t1 103 rfl rfl
  | 1, _ => exact z_t1 105 rfl rfl
  | 2, _ => exact z_t1 107 rfl rfl
  | k + 3, h => exact absurd h (by omega)
theorem hX_X8 : ∀ w ∈ u_ws RX8 TX8 6, w ∈ zB := by
  intro w hw
  obtain ⟨k, hk, rfl⟩ := List.mem_map.mp hw
  have hk := List.mem_range.mp hk
  match k, hk with
  | 0, _ => exact z_t1 189 rfl rfl
  | 1, _ => exact z_t1 191 rfl rfl
  | 2, _ => exact z_t1 193 rfl rfl
  | 3, _ => exact z_t1 195 rfl rfl
  | 4, _ => exact z_t1 197 rfl rfl
  | 5, _ => exact z_t1 199 rfl rfl
  | k + 6, h => exact absurd h (by omega)
theorem hX_X9 : ∀ w ∈ u_ws RX9 TX9 21, w ∈ zB := by
  intro w hw
  obtain ⟨k, hk, rfl⟩ := List.mem_map.mp hw
  have hk := List.mem_range.mp hk
  match k, hk with
  | 0, _ => exact z_t3 177 rfl rfl
  | 1, _ => exact z_t3 179 rfl rfl
  | 2, _ => exact z_t3 181 rfl rfl
  | 3, _ => exact z_t3 183 rfl rfl
  | 4, _ => exact z_t3 185 rfl rfl
  | 5, _ => exact z_t3 187 rfl rfl
  | 6, _ => exact z_t3 189 rfl rfl
  | 7, _ => exact z_t3 191 rfl rfl
  | 8, _ => exact z_t3 193 rfl rfl
  | 9, _ => exact z_t3 195 rfl rfl
  | 10, _ => exact z_t3 197 rfl rfl
  | 11, _ => exact z_t3 199 rfl rfl
  | 12, _ => exact z_t3 201 rfl rfl
  | 13, _ => exact z_t3 203 rfl rfl
  | 14, _ => exact z_t3 205 rfl rfl
  | 15, _ => exact z_t3 207 rfl rfl
  | 16, _ => exact z_t3 209 rfl rfl
  | 17, _ => exact z_t3 211 rfl rfl
  | 18, _ => exact z_t3 213 rfl rfl
  | 19, _ => exact z_t3 215 rfl rfl
  | 20, _ => exact z_t3 217 rfl rfl
  | k + 21, h => exact absurd h (by omega)
theorem z_in {i : Int32} {n : Nat} (h : decide (¬ (i < 0 ∨ n ≤ i.toNatClampNeg)) = true) : vp_in i n := show ¬ (i < 0 ∨ n ≤ i.toNatClampNeg) from of_decide_eq_true h
def zput : va_W → List Nat → va_W → va_W
  | ws, i :: is, q :: qs => zput (ws.set i q) is qs
  | ws, [], _ => ws
  | ws, _ :: _, [] => ws
theorem zput_get : ∀ (isC : List Nat) (w1 ws : va_W), isC.length = w1.length → ∀ (k : Nat) (q : Nat × va_E), (zput ws isC w1)[k]? = some q → (∃ j : Nat, isC[j]? = some k ∧ w1[j]? = some q) ∨ (k ∉ isC ∧ ws[k]? = some q) := by
  intro isC
  induction isC with
  | nil => intro w1 ws _ k q h; exact Or.inr ⟨List.not_mem_nil, by cases w1 <;> exact h⟩
  | cons i is ih =>
    intro w1 ws hlen k q h
    cases w1 with
    | nil => simp at hlen
    | cons q0 qs =>
      have h1 : (zput (ws.set i q0) is qs)[k]? = some q := h
      rcases ih qs (ws.set i q0) (by simpa using hlen) k q h1 with ⟨j, h2, h3⟩ | ⟨h2, h3⟩
      · exact Or.inl ⟨j + 1, by simpa using h2, by simpa using h3⟩
      · by_cases hk : k = i
        · subst hk
          have hl : k < (ws.set k q0).length := (List.getElem?_eq_some_iff.mp h3).1
          rw [List.getElem?_set_self (by simpa using hl)] at h3
          exact Or.inl ⟨0, rfl, by simpa using h3⟩
        · rw [List.getElem?_set_ne (Ne.symm hk)] at h3
          exact Or.inr ⟨fun hm => (List.mem_cons.mp hm).elim hk h2, h3⟩
theorem zput_fst : ∀ (isC : List Nat) (w1 ws : va_W), isC.map (fun i => (ws[i]?).map Prod.fst) = w1.map (fun q => some q.1) → (zput ws isC w1).map Prod.fst = ws.map Prod.fst := by
  intro isC
  induction isC with
  | nil => intro w1 ws _; cases w1 <;> rfl
  | cons i is ih =>
    intro w1 ws h
    cases w1 with
    | nil => simp at h
    | cons q0 qs =>
      have h0 : (ws[i]?).map Prod.fst = some q0.1 := by simpa using (List.cons.inj h).1
      have hs : (ws.set i q0).map Prod.fst = ws.map Prod.fst := by
        apply List.ext_getElem?
        intro k
        rw [List.getElem?_map, List.getElem?_map, List.getElem?_set]
        by_cases hk : i = k
        · subst hk
          cases hw : ws[i]? with
          | none => rw [hw] at h0; cases h0
          | some z =>
            rw [hw] at h0
            have hl := (List.getElem?_eq_some_iff.mp hw).1
            simp [hl]
            simpa using h0.symm
        · simp [hk]
      show (zput (ws.set i q0) is qs).map Prod.fst = _
      rw [ih qs (ws.set i q0) ?_, hs]
      have h1 := (List.cons.inj h).2
      rw [← h1]
      apply List.map_congr_left
      intro a _
      rw [← List.getElem?_map, hs, List.getElem?_map]
theorem zD_congr {A : Nat → Prop} {ws ws' : va_W} (h : ws'.map Prod.fst = ws.map Prod.fst) (hD : va_D A ws) : va_D A ws' := by
  have key : ∀ (i : Nat) (p : Nat × va_E), ws'[i]? = some p → ∃ p0 : Nat × va_E, ws[i]? = some p0 ∧ p0.1 = p.1 := by
    intro i p hp
    have h1 : (ws'.map Prod.fst)[i]? = some p.1 := by rw [List.getElem?_map, hp]; rfl
    rw [h, List.getElem?_map] at h1
    cases hw : ws[i]? with
    | none => rw [hw] at h1; cases h1
    | some z => rw [hw] at h1; exact ⟨z, rfl, Option.some.inj h1⟩
  refine ⟨fun i j p q hp hq hpq => ?_, fun k q hq => ?_⟩
  · obtain ⟨p0, a1, a2⟩ := key i p hp
    obtain ⟨q0, b1, b2⟩ := key j q hq
    exact hD.1 i j p0 q0 a1 b1 (by rw [a2, b2, hpq])
  · obtain ⟨p0, a1, a2⟩ := key k q hq
    rw [← a2]
    exact hD.2 k p0 a1
theorem zjoin {A0 : Nat → Prop} {D : va_G} {ws wc w1 : va_W} {H H1 : Heap} (hP : va_P D vwCl ws H) (hD : va_D A0 ws) (isC : List Nat) (hC : isC.map (fun i => ws[i]?) = wc.map some) (ha : w1.map Prod.fst = wc.map Prod.fst)
    (hk : ∀ q : Nat, q < H.size → ¬ va_A wc H.size q → H1[q]? = H[q]?) (hP1 : va_P D vwCl w1 H1) : va_P D vwCl (zput ws isC w1) H1 ∧ va_D A0 (zput ws isC w1) := by
  have hl : isC.length = w1.length := by
    have h1 := congrArg List.length hC
    have h2 := congrArg List.length ha
    simp only [List.length_map] at h1 h2
    rw [h1, h2]
  have hf : isC.map (fun i => (ws[i]?).map Prod.fst) = w1.map (fun q => some q.1) := by
    have h1 := congrArg (List.map (Option.map Prod.fst)) hC
    have h2 := congrArg (List.map some) ha
    simp only [List.map_map] at h1 h2
    rw [show (fun i => (ws[i]?).map Prod.fst) = (Option.map Prod.fst ∘ fun i => ws[i]?) from rfl, h1, show (fun q : Nat × va_E => some q.1) = (some ∘ Prod.fst) from rfl, h2]
    rfl
  refine ⟨fun k q hq => ?_, zD_congr (zput_fst isC w1 ws hf) hD⟩
  rcases zput_get isC w1 ws hl k q hq with ⟨j, -, h2⟩ | ⟨h1, h2⟩
  · exact hP1 j q h2
  · have hlt := (hP k q h2).lt
    refine (hP k q h2).kept (hk q.1 hlt (fun hA => ?_))
    rcases hA with ⟨k2, e, h3⟩ | h3
    · have h4 : (isC.map (fun i => ws[i]?))[k2]? = some (some (q.1, e)) := by rw [hC, List.getElem?_map, h3]; rfl
      rw [List.getElem?_map] at h4
      cases hi : isC[k2]? with
      | none => rw [hi] at h4; cases h4
      | some i =>
        rw [hi] at h4
        have h5 : ws[i]? = some (q.1, e) := Option.some.inj h4
        have := hD.1 k i q (q.1, e) h2 h5 rfl
        subst this
        exact h1 (List.mem_of_getElem? hi)
    · omega
section ZR
variable {p : Program} {l : Launch} {e : Env} {R : Room} {s : State} {m : MethodId} {args : Array Value} {below : List Frame} {meth : Method} {c : Code} {H : Heap} {locs : List Loc} {cells slots : Nat} {Q : State → Prop}
variable {y : MethodName} {bytes cc : ByteArray} {maxL nL mc ms n index : Nat} {ret : Option FieldType} {wsy : List Cond} {rm : Room} {Qc : Array Value → State → Outcome → State → Prop} {free : Addr → Prop} {Ts : List Cond} {own C host : String} {b : Addr} {As rest st0 : List Value} {pc : Nat} {ls : Array Slot}
variable {D : va_G} {T : List (ClassId × FieldType)} {ws c0 : va_W} {A : Nat → Prop} {H0 : Heap} {a : Array Value}
theorem z_sub {isC : List Nat} (hC : isC.map (fun i => ws[i]?) = c0.map some) : isC.filterMap (fun i => ws[i]?) = c0 := by
  have h1 : isC.filterMap (fun i => ws[i]?) = (isC.map (fun i => ws[i]?)).filterMap id := by rw [List.filterMap_map]; rfl
  rw [h1, hC, List.filterMap_map]
  induction c0 with
  | nil => rfl
  | cons q qs ih => simp
theorem z_runV (S : CallFix p m c cc nL s args Ts own) (hM : Met l y wsy rm (va_Pc (.ref b :: As) (zPre D T H.size c0)) Qc mc ms free) (cw : CallW R s args own C index y bytes maxL ret wsy rm mc ms n) (hK : zK D T s) (hP : va_P D vwCl ws H) (hD : va_D A ws) (isC : List Nat) (hC : isC.map (fun i => ws[i]?) = c0.map some) (hn : va_nd isC = true)
    (q0 ci : Nat) {q : vw_C} {fs : List Value} (hc : vwCl[ci]? = some q) (hq : q.1 = C) (he : ws[q0]? = some (b, .inr (ci, fs))) (hlen : As.length = n) (hsize : ls.size = nL) (hst : st0 = As.reverse ++ .ref b :: rest) (hW : (rest.map fun v => v.category).sum ≤ 8) (hdg : decode cc pc = .ok (.invokevirtual index, 3)) (hf : cells + mc ≤ R.cells ∧ slots + ms ≤ R.slots) :
    va_Run p l e R s m args below meth c H locs cells slots mc ms (F0 m pc ls st0) rest (Qc (Value.ref b :: As).toArray) free := by
  subst hst; subst hq
  have hPc := hP.sub isC (z_sub hC)
  have hDc := hD.sub isC hn hC
  exact va_runV S hM cw ⟨zPre.blind, va_recv hK.1 hP hc he, fun U hU hW => ⟨rfl, by rw [hU], by rw [hU]; exact hPc, hK.warm hW, hDc.weaken (fun _ _ _ _ => trivial)⟩⟩ rfl hlen hsize rfl (lv_room hW) hdg hf
theorem z_runS (S : CallFix p m c cc nL s args Ts own) (hM : Met l y wsy rm (va_Pc As (zPre D T H.size c0)) Qc mc ms free) (cw : CallB R s args own index y bytes maxL ret wsy rm mc ms n ∧ (Cond.static y).before args s = true) (hK : zK D T s) (hP : va_P D vwCl ws H) (hD : va_D A ws) (isC : List Nat) (hC : isC.map (fun i => ws[i]?) = c0.map some) (hn : va_nd isC = true)
    (hlen : As.length = n) (hsize : ls.size = nL) (hst : st0 = As.reverse ++ rest) (hW : (rest.map fun v => v.category).sum ≤ 8) (hdg : decode cc pc = .ok (.invokestatic index, 3)) (hf : cells + mc ≤ R.cells ∧ slots + ms ≤ R.slots) :
    va_Run p l e R s m args below meth c H locs cells slots mc ms (F0 m pc ls st0) rest (Qc As.toArray) free := by
  subst hst
  have hPc := hP.sub isC (z_sub hC)
  have hDc := hD.sub isC hn hC
  exact va_runS S hM cw ⟨zPre.blind, fun U hU hW => ⟨rfl, by rw [hU], by rw [hU]; exact hPc, hK.warm hW, hDc.weaken (fun _ _ _ _ => trivial)⟩⟩ rfl hlen hsize rfl (lv_room hW) hdg hf
theorem z_runSN (S : CallFix p m c cc nL s args Ts own) (hM : Met l y wsy rm (va_Pc As (zPre D T H.size c0)) Qc mc ms free) (cw : va_CN R s args own index y host bytes maxL ret wsy rm mc ms n ∧ (Cond.static y).before args s = true ∧ True) (hK : zK D T s) (hP : va_P D vwCl ws H) (hD : va_D A ws) (isC : List Nat) (hC : isC.map (fun i => ws[i]?) = c0.map some) (hn : va_nd isC = true)
    (hlen : As.length = n) (hsize : ls.size = nL) (hst : st0 = As.reverse ++ rest) (hW : (rest.map fun v => v.category).sum ≤ 8) (hdg : decode cc pc = .ok (.invokestatic index, 3)) (hf : cells + mc ≤ R.cells ∧ slots + ms ≤ R.slots) :
    va_Run p l e R s m args below meth c H locs cells slots mc ms (F0 m pc ls st0) rest (Qc As.toArray) free := by
  subst hst
  have hPc := hP.sub isC (z_sub hC)
  have hDc := hD.sub isC hn hC
  exact va_runSN S hM cw ⟨zPre.blind, fun U hU hW => ⟨rfl, by rw [hU], by rw [hU]; exact hPc, hK.warm hW, hDc.weaken (fun _ _ _ _ => trivial)⟩⟩ rfl hlen hsize rfl (lv_room hW) hdg hf
theorem z_runI (S : CallFix p m c cc nL s args Ts own) (hM : Met l y wsy rm (va_Pc (.ref b :: As) (zPre D T H.size c0)) Qc mc ms free) (cw : CallB R s args own index y bytes maxL none wsy rm mc ms n ∧ y.name = "<init>" ∧ (Cond.instanceMethod y).before args s = true) (hK : zK D T s) (hP : va_P D vwCl ws H) (hD : va_D A ws) (isC : List Nat) (hC : isC.map (fun i => ws[i]?) = c0.map some) (hn : va_nd isC = true)
    (hlen : As.length = n) (hsize : ls.size = nL) (hst : st0 = As.reverse ++ .ref b :: rest) (hW : (rest.map fun v => v.category).sum ≤ 8) (hdg : decode cc pc = .ok (.invokespecial index, 3)) (hf : cells + mc ≤ R.cells ∧ slots + ms ≤ R.slots) :
    va_Run p l e R s m args below meth c H locs cells slots mc ms (F0 m pc ls st0) rest (Qc (Value.ref b :: As).toArray) free := by
  subst hst
  have hPc := hP.sub isC (z_sub hC)
  have hDc := hD.sub isC hn hC
  exact va_runI S hM cw ⟨zPre.blind, fun U hU hW => ⟨rfl, by rw [hU], by rw [hU]; exact hPc, hK.warm hW, hDc.weaken (fun _ _ _ _ => trivial)⟩⟩ rfl hlen hsize rfl (lv_room hW) hdg hf
theorem z_ri {S : Type} {post : Int32 → S → Prop} {c1 : S → va_W} (hr : va_Run p l e R s m args below meth c H locs cells slots 0 0 (F0 m pc ls st0) rest (va_Qi post (fun u t => va_P D vwCl (c1 u) t.heap) (va_A c0 H.size) a) (va_A c0 H.size)) (hP : va_P D vwCl ws H) (hD : va_D A ws) (hS : va_S A H0 H locs) (hA : ∀ q, H0.size ≤ q → A q) (isC : List Nat) (hC : isC.map (fun i => ws[i]?) = c0.map some) (ha : ∀ u, (c1 u).map Prod.fst = c0.map Prod.fst) (ws1 : S → va_W) (hw1 : ∀ u, zput ws isC (c1 u) = ws1 u)
    (kk : ∀ (r : Int32) (u : S) (H1 : Heap) (locs1 : List Loc), post r u → va_P D vwCl (ws1 u) H1 → va_D A (ws1 u) → va_S A H0 H1 locs1 → W p l e R s m args below meth c H1 locs1 cells slots Q (F0 m (pc + 3) ls (.int r :: rest))) : W p l e R s m args below meth c H locs cells slots Q (F0 m pc ls st0) := by
  have hF := va_free (wc := c0) hD hS hA isC hC
  refine va_calli hr hS (fun q _ h => hF q h) hF (fun r u t H1 locs1 ht _ hp hB _ hk hS1 => ?_)
  rw [ht] at hB
  obtain ⟨h1, h2⟩ := zjoin hP hD isC hC (ha u) hk hB
  rw [hw1 u] at h1 h2
  exact kk r u H1 locs1 hp h1 h2 hS1
theorem z_rl {S : Type} {post : Int64 → S → Prop} {c1 : S → va_W} (hr : va_Run p l e R s m args below meth c H locs cells slots 0 0 (F0 m pc ls st0) rest (va_Ql post (fun u t => va_P D vwCl (c1 u) t.heap) (va_A c0 H.size) a) (va_A c0 H.size)) (hP : va_P D vwCl ws H) (hD : va_D A ws) (hS : va_S A H0 H locs) (hA : ∀ q, H0.size ≤ q → A q) (isC : List Nat) (hC : isC.map (fun i => ws[i]?) = c0.map some) (ha : ∀ u, (c1 u).map Prod.fst = c0.map Prod.fst) (ws1 : S → va_W) (hw1 : ∀ u, zput ws isC (c1 u) = ws1 u)
    (kk : ∀ (r : Int64) (u : S) (H1 : Heap) (locs1 : List Loc), post r u → va_P D vwCl (ws1 u) H1 → va_D A (ws1 u) → va_S A H0 H1 locs1 → W p l e R s m args below meth c H1 locs1 cells slots Q (F0 m (pc + 3) ls (.long r :: rest))) : W p l e R s m args below meth c H locs cells slots Q (F0 m pc ls st0) := by
  have hF := va_free (wc := c0) hD hS hA isC hC
  refine va_calll hr hS (fun q _ h => hF q h) hF (fun r u t H1 locs1 ht _ hp hB _ hk hS1 => ?_)
  rw [ht] at hB
  obtain ⟨h1, h2⟩ := zjoin hP hD isC hC (ha u) hk hB
  rw [hw1 u] at h1 h2
  exact kk r u H1 locs1 hp h1 h2 hS1
theorem z_rv {S : Type} {post : S → Prop} {c1 : S → va_W} (hr : va_Run p l e R s m args below meth c H locs cells slots 0 0 (F0 m pc ls st0) rest (va_Qv post (fun u t => va_P D vwCl (c1 u) t.heap) (va_A c0 H.size) a) (va_A c0 H.size)) (hP : va_P D vwCl ws H) (hD : va_D A ws) (hS : va_S A H0 H locs) (hA : ∀ q, H0.size ≤ q → A q) (isC : List Nat) (hC : isC.map (fun i => ws[i]?) = c0.map some) (ha : ∀ u, (c1 u).map Prod.fst = c0.map Prod.fst) (ws1 : S → va_W) (hw1 : ∀ u, zput ws isC (c1 u) = ws1 u)
    (kk : ∀ (u : S) (H1 : Heap) (locs1 : List Loc), post u → va_P D vwCl (ws1 u) H1 → va_D A (ws1 u) → va_S A H0 H1 locs1 → W p l e R s m args below meth c H1 locs1 cells slots Q (F0 m (pc + 3) ls rest)) : W p l e R s m args below meth c H locs cells slots Q (F0 m pc ls st0) := by
  have hF := va_free (wc := c0) hD hS hA isC hC
  refine va_callv hr hS (fun q _ h => hF q h) hF (fun u t H1 locs1 ht _ hp hB _ hk hS1 => ?_)
  rw [ht] at hB
  obtain ⟨h1, h2⟩ := zjoin hP hD isC hC (ha u) hk hB
  rw [hw1 u] at h1 h2
  exact kk u H1 locs1 hp h1 h2 hS1
theorem z_iret {S : Type} {post : Int32 → S → Prop} {c1 : S → va_W} (hx : p.tables.exec = Jvm.exec) (hb : c.code = cc) (hr : meth.sig.returnType = some .int) (hlocks : meth.locks = false) (u : S) {v : Int32} (hp : post v u) (hP : va_P D vwCl (c1 u) H) (hS : va_S A s.heap H locs) (hdg : decode cc pc = .ok (.ireturn, 1)) : W p l e R s m args below meth c H locs cells slots (MQ below (va_Qi post (fun u t => va_P D vwCl (c1 u) t.heap) A) args s cells slots A) (F0 m pc ls [.int v]) :=
  W.iret hx hb hr (fun t ht _ => ⟨⟨v, u, rfl, hp, by show va_P D vwCl (c1 u) t.heap; rw [ht]; exact hP⟩, hS.F ht⟩) hS.2.2 hdg hlocks
theorem z_zret {S : Type} {post : Int32 → S → Prop} {c1 : S → va_W} {ty : FieldType} (hx : p.tables.exec = Jvm.exec) (hb : c.code = cc) (hr : meth.sig.returnType = some ty) (hlocks : meth.locks = false) {v : Int32} (hn : narrow ty (.int v) = .int v) (u : S) (hp : post v u) (hP : va_P D vwCl (c1 u) H) (hS : va_S A s.heap H locs) (hdg : decode cc pc = .ok (.ireturn, 1)) : W p l e R s m args below meth c H locs cells slots (MQ below (va_Qi (fun r u => narrow ty (.int r) = .int r ∧ post r u) (fun u t => va_P D vwCl (c1 u) t.heap) A) args s cells slots A) (F0 m pc ls [.int v]) :=
  W.zret hx hb hr hn (fun t ht _ => ⟨⟨v, u, rfl, ⟨hn, hp⟩, by show va_P D vwCl (c1 u) t.heap; rw [ht]; exact hP⟩, hS.F ht⟩) hS.2.2 hdg hlocks
theorem z_lret {S : Type} {post : Int64 → S → Prop} {c1 : S → va_W} (hx : p.tables.exec = Jvm.exec) (hb : c.code = cc) (hr : meth.sig.returnType = some .long) (hlocks : meth.locks = false) (u : S) {v : Int64} (hp : post v u) (hP : va_P D vwCl (c1 u) H) (hS : va_S A s.heap H locs) (hdg : decode cc pc = .ok (.lreturn, 1)) : W p l e R s m args below meth c H locs cells slots (MQ below (va_Ql post (fun u t => va_P D vwCl (c1 u) t.heap) A) args s cells slots A) (F0 m pc ls [.long v]) :=
  W.lret hx hb hr (fun t ht _ => ⟨⟨v, u, rfl, hp, by show va_P D vwCl (c1 u) t.heap; rw [ht]; exact hP⟩, hS.F ht⟩) hS.2.2 hdg hlocks
theorem z_vret {S : Type} {post : S → Prop} {c1 : S → va_W} (hx : p.tables.exec = Jvm.exec) (hb : c.code = cc) (hr : meth.sig.returnType = none) (hlocks : meth.locks = false) (u : S) (hp : post u) (hP : va_P D vwCl (c1 u) H) (hS : va_S A s.heap H locs) (hdg : decode cc pc = .ok (.return_, 1)) : W p l e R s m args below meth c H locs cells slots (MQ below (va_Qv post (fun u t => va_P D vwCl (c1 u) t.heap) A) args s cells slots A) (F0 m pc ls []) :=
  W.vret hx hb hr (fun t ht _ => ⟨⟨u, rfl, hp, by show va_P D vwCl (c1 u) t.heap; rw [ht]; exact hP⟩, hS.F ht⟩) hS.2.2 hdg hlocks
end ZR
