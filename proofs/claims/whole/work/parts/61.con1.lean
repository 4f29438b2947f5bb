abbrev cw_X4_kindAt (cC : ClassId) (h h_signs : Nat) (g_count : Value) (f_signs : Nat → Int32) : va_W := [(h, .inr (4, [.ref h_signs, g_count])), (h_signs, .inl (cC, 60, .inl f_signs))]
abbrev q_X4_kindAt (D : va_G) (cC : ClassId) (h h_signs : Nat) (g_count : Value) (post : Int32 → Prop) (f_signs : Nat → Int32) (A : Nat → Prop) : Array Value → State → Outcome → State → Prop := va_Qi (S := Unit) (fun r _ => narrow .char (.int r) = .int r ∧ post r ) (fun _ t => va_P D vwCl (cw_X4_kindAt cC h h_signs g_count f_signs) t.heap) A
abbrev v_X4_kindAt : List Cond := .code yX4_kindAt cX4_kindAt 2 (some .char) :: zB
theorem hd_X4_kindAt : yX4_kindAt.cls = RX4 ∧ yX4_kindAt.cls ≠ "java/lang/invoke/MethodHandle" ∧ yX4_kindAt.cls ≠ "java/lang/invoke/VarHandle" ∧ (parseMethodDescriptor yX4_kindAt.desc).map (fun d => d.parameters.length) = some 1 := by decide +kernel
set_option maxHeartbeats 4000000 in
set_option maxRecDepth 100000 in
theorem c_X4_kindAt (l : Launch) (D : va_G) (cI cC cZ : ClassId) (h h_signs : Nat) (g_count : Value) (f_signs : Nat → Int32) (p1 : Int32) (sz : Nat) (post : Int32 → Prop) (hw : w_X4_kindAt post f_signs p1) : Met l yX4_kindAt v_X4_kindAt ({ frames := 3, cells := 0, slots := 0, locals := 64 } : Room) (va_Pc [.ref h, .int p1] (zPre D (zT cI cC cZ) sz (cw_X4_kindAt cC h h_signs g_count f_signs))) (q_X4_kindAt D cC h h_signs g_count post f_signs (va_A (cw_X4_kindAt cC h h_signs g_count f_signs) sz)) 0 0 (va_A (cw_X4_kindAt cC h h_signs g_count f_signs) sz) := by
  refine Met.ofW (cc := cX4_kindAt) (maxL := 2) (ret := (some .char)) (by decide) rfl ?_
  intro p e s m args below meth c s₁ B hml hv
  obtain ⟨rfl, hsz, hP, hK, hD0⟩ := hv
  subst hsz
  have hx := B.exec
  have hb := B.bytes
  have hr := B.returns
  have hz : ∀ w ∈ zB, w.before _ s = true := fun w h => atoms_spec (ws := v_X4_kindAt) B.pre w (List.mem_cons_of_mem _ h)
  have hown : s.vm.findClass RX4 = some m.cls := findClass_of_methodNamed B.named
  have hlocks := B.notSynchronized
  have hF : CallFix p m c cX4_kindAt 2 s (([.ref h, .int p1] : List Value).toArray) zB RX4 := ⟨hx, hb, hml, hown, hz⟩
  have hD := hD0.self (sz := s.heap.size)
  generalize hAe : va_A (cw_X4_kindAt cC h h_signs g_count f_signs) s.heap.size = A at hD ⊢
  have hA : ∀ q : Nat, s.heap.size ≤ q → A q := fun q h => by rw [← hAe]; exact Or.inr h
  have hS : va_S A s.heap s.heap [] := va_S.rf
  have hP : va_P D vwCl (cw_X4_kindAt cC h h_signs g_count f_signs) s.heap := hP
  have hl := lv_entry ([.ref h, .int p1]) (n := 2) (Nat.le_of_ble_eq_true rfl)
  rw [lg_entry_eq]
  generalize (lg_sl ([.ref h, .int p1]) ++ List.replicate (2 - (lg_sl ([.ref h, .int p1])).length) Slot.unset).toArray = ls at hl ⊢
  have hl : lv_has ls 2 [(0, .ref h), (1, .int p1)] := hl
  unfold w_X4_kindAt at hw
  refine lv_aload_n hx hb dX4_kindAt_0 rfl (lv_at hl 0 rfl) ?_
  refine lv_iload_n hx hb dX4_kindAt_1 rfl (lv_at hl 1 rfl) ?_
  refine z_ri (z_runV (As := [.int p1]) (rest := []) hF (c_X4_isLetter l D cI cC cZ h h_signs g_count f_signs p1 _ _ hw) (cwV 1 hz (z_gV z2_44 z2_46 zp_2 z1_6 z2_47) rfl rfl rfl hd_X4_isLetter ⟨Nat.le_of_ble_eq_true rfl, Nat.le_of_ble_eq_true rfl⟩) hK hP hD [0, 1] rfl rfl 0 4 rfl rfl rfl rfl hl.1 rfl (Nat.le_of_ble_eq_true rfl) dX4_kindAt_2 ⟨Nat.zero_le _, Nat.zero_le _⟩) hP hD hS hA [0, 1] rfl (fun _ => rfl) (fun _ => cw_X4_kindAt cC h h_signs g_count f_signs) (fun _ => rfl) (fun r2 u2 H locs hw hP hD hS => ?_)
  obtain ⟨hn2, hw⟩ := hw
  try dsimp only at hw
  refine lv_if_eq (tgt := 18) hx hb dX4_kindAt_5 (by decide) (fun c5 => ?_) (fun c5 => ?_)
  · have hw := hw.1 c5
    refine lv_aload_n hx hb dX4_kindAt_18 rfl (lv_at hl 0 rfl) ?_
    refine lv_iload_n hx hb dX4_kindAt_19 rfl (lv_at hl 1 rfl) ?_
    refine z_ri (z_runV (As := [.int p1]) (rest := []) hF (c_X4_signAt l D cI cC cZ h h_signs g_count f_signs p1 _ _ hw) (cwV 1 hz (z_gV z2_36 z2_38 zp_0 z1_6 z2_39) rfl rfl rfl hd_X4_signAt ⟨Nat.le_of_ble_eq_true rfl, Nat.le_of_ble_eq_true rfl⟩) hK hP hD [0, 1] rfl rfl 0 4 rfl rfl rfl rfl hl.1 rfl (Nat.le_of_ble_eq_true rfl) dX4_kindAt_20 ⟨Nat.zero_le _, Nat.zero_le _⟩) hP hD hS hA [0, 1] rfl (fun _ => rfl) (fun _ => cw_X4_kindAt cC h h_signs g_count f_signs) (fun _ => rfl) (fun r20 u20 H locs hw hP hD hS => ?_)
    obtain ⟨hn20, hw⟩ := hw
    try dsimp only at hw
    exact z_zret hx hb hr hlocks hn20 () hw hP hS dX4_kindAt_23
  have hw := hw.2 c5
  refine lv_aload_n hx hb dX4_kindAt_8 rfl (lv_at hl 0 rfl) ?_
  refine lv_iload_n hx hb dX4_kindAt_9 rfl (lv_at hl 1 rfl) ?_
  refine lv_iconst (v := (1 : Int32)) hx hb dX4_kindAt_10 (by decide) ?_
  refine lv_iadd hx hb dX4_kindAt_11 ?_
  refine z_ri (z_runV (As := [.int (p1 + (1 : Int32))]) (rest := []) hF (c_X4_signAt l D cI cC cZ h h_signs g_count f_signs (p1 + (1 : Int32)) _ _ hw) (cwV 1 hz (z_gV z2_36 z2_38 zp_0 z1_6 z2_39) rfl rfl rfl hd_X4_signAt ⟨Nat.le_of_ble_eq_true rfl, Nat.le_of_ble_eq_true rfl⟩) hK hP hD [0, 1] rfl rfl 0 4 rfl rfl rfl rfl hl.1 rfl (Nat.le_of_ble_eq_true rfl) dX4_kindAt_12 ⟨Nat.zero_le _, Nat.zero_le _⟩) hP hD hS hA [0, 1] rfl (fun _ => rfl) (fun _ => cw_X4_kindAt cC h h_signs g_count f_signs) (fun _ => rfl) (fun r12 u12 H locs hw hP hD hS => ?_)
  obtain ⟨hn12, hw⟩ := hw
  try dsimp only at hw
  refine lv_goto (tgt := 23) hx hb dX4_kindAt_15 (by decide) ?_
  exact z_zret hx hb hr hlocks hn12 () hw hP hS dX4_kindAt_23
abbrev cw_X4_numberAt (cC : ClassId) (h h_signs : Nat) (g_count : Value) (f_signs : Nat → Int32) : va_W := [(h, .inr (4, [.ref h_signs, g_count])), (h_signs, .inl (cC, 60, .inl f_signs))]
abbrev q_X4_numberAt (D : va_G) (cC : ClassId) (h h_signs : Nat) (g_count : Value) (post : Int32 → Prop) (f_signs : Nat → Int32) (A : Nat → Prop) : Array Value → State → Outcome → State → Prop := va_Qi (S := Unit) (fun r _ => post r ) (fun _ t => va_P D vwCl (cw_X4_numberAt cC h h_signs g_count f_signs) t.heap) A
abbrev v_X4_numberAt : List Cond := .code yX4_numberAt cX4_numberAt 2 (some .int) :: zB
theorem hd_X4_numberAt : yX4_numberAt.cls = RX4 ∧ yX4_numberAt.cls ≠ "java/lang/invoke/MethodHandle" ∧ yX4_numberAt.cls ≠ "java/lang/invoke/VarHandle" ∧ (parseMethodDescriptor yX4_numberAt.desc).map (fun d => d.parameters.length) = some 1 := by decide +kernel
set_option maxHeartbeats 4000000 in
set_option maxRecDepth 100000 in
theorem c_X4_numberAt (l : Launch) (D : va_G) (cI cC cZ : ClassId) (h h_signs : Nat) (g_count : Value) (f_signs : Nat → Int32) (p1 : Int32) (sz : Nat) (post : Int32 → Prop) (hw : w_X4_numberAt post f_signs p1) : Met l yX4_numberAt v_X4_numberAt ({ frames := 3, cells := 0, slots := 0, locals := 64 } : Room) (va_Pc [.ref h, .int p1] (zPre D (zT cI cC cZ) sz (cw_X4_numberAt cC h h_signs g_count f_signs))) (q_X4_numberAt D cC h h_signs g_count post f_signs (va_A (cw_X4_numberAt cC h h_signs g_count f_signs) sz)) 0 0 (va_A (cw_X4_numberAt cC h h_signs g_count f_signs) sz) := by
  refine Met.ofW (cc := cX4_numberAt) (maxL := 2) (ret := (some .int)) (by decide) rfl ?_
  intro p e s m args below meth c s₁ B hml hv
  obtain ⟨rfl, hsz, hP, hK, hD0⟩ := hv
  subst hsz
  have hx := B.exec
  have hb := B.bytes
  have hr := B.returns
  have hz : ∀ w ∈ zB, w.before _ s = true := fun w h => atoms_spec (ws := v_X4_numberAt) B.pre w (List.mem_cons_of_mem _ h)
  have hown : s.vm.findClass RX4 = some m.cls := findClass_of_methodNamed B.named
  have hlocks := B.notSynchronized
  have hF : CallFix p m c cX4_numberAt 2 s (([.ref h, .int p1] : List Value).toArray) zB RX4 := ⟨hx, hb, hml, hown, hz⟩
  have hD := hD0.self (sz := s.heap.size)
  generalize hAe : va_A (cw_X4_numberAt cC h h_signs g_count f_signs) s.heap.size = A at hD ⊢
  have hA : ∀ q : Nat, s.heap.size ≤ q → A q := fun q h => by rw [← hAe]; exact Or.inr h
  have hS : va_S A s.heap s.heap [] := va_S.rf
  have hP : va_P D vwCl (cw_X4_numberAt cC h h_signs g_count f_signs) s.heap := hP
  have hl := lv_entry ([.ref h, .int p1]) (n := 2) (Nat.le_of_ble_eq_true rfl)
  rw [lg_entry_eq]
  generalize (lg_sl ([.ref h, .int p1]) ++ List.replicate (2 - (lg_sl ([.ref h, .int p1])).length) Slot.unset).toArray = ls at hl ⊢
  have hl : lv_has ls 2 [(0, .ref h), (1, .int p1)] := hl
  unfold w_X4_numberAt at hw
  refine lv_aload_n hx hb dX4_numberAt_0 rfl (lv_at hl 0 rfl) ?_
  refine lv_iload_n hx hb dX4_numberAt_1 rfl (lv_at hl 1 rfl) ?_
  refine z_ri (z_runV (As := [.int p1]) (rest := []) hF (c_X4_isLetter l D cI cC cZ h h_signs g_count f_signs p1 _ _ hw) (cwV 1 hz (z_gV z2_44 z2_46 zp_2 z1_6 z2_47) rfl rfl rfl hd_X4_isLetter ⟨Nat.le_of_ble_eq_true rfl, Nat.le_of_ble_eq_true rfl⟩) hK hP hD [0, 1] rfl rfl 0 4 rfl rfl rfl rfl hl.1 rfl (Nat.le_of_ble_eq_true rfl) dX4_numberAt_2 ⟨Nat.zero_le _, Nat.zero_le _⟩) hP hD hS hA [0, 1] rfl (fun _ => rfl) (fun _ => cw_X4_numberAt cC h h_signs g_count f_signs) (fun _ => rfl) (fun r2 u2 H locs hw hP hD hS => ?_)
  obtain ⟨hn2, hw⟩ := hw
  try dsimp only at hw
  refine lv_if_eq (tgt := 19) hx hb dX4_numberAt_5 (by decide) (fun c5 => ?_) (fun c5 => ?_)
  · have hw := hw.1 c5
    refine lv_aload_n hx hb dX4_numberAt_19 rfl (lv_at hl 0 rfl) ?_
    refine lv_iload_n hx hb dX4_numberAt_20 rfl (lv_at hl 1 rfl) ?_
    refine lv_iconst (v := (1 : Int32)) hx hb dX4_numberAt_21 (by decide) ?_
    refine lv_iadd hx hb dX4_numberAt_22 ?_
    refine z_ri (z_runV (As := [.int (p1 + (1 : Int32))]) (rest := []) hF (c_X4_signAt l D cI cC cZ h h_signs g_count f_signs (p1 + (1 : Int32)) _ _ hw) (cwV 1 hz (z_gV z2_36 z2_38 zp_0 z1_6 z2_39) rfl rfl rfl hd_X4_signAt ⟨Nat.le_of_ble_eq_true rfl, Nat.le_of_ble_eq_true rfl⟩) hK hP hD [0, 1] rfl rfl 0 4 rfl rfl rfl rfl hl.1 rfl (Nat.le_of_ble_eq_true rfl) dX4_numberAt_23 ⟨Nat.zero_le _, Nat.zero_le _⟩) hP hD hS hA [0, 1] rfl (fun _ => rfl) (fun _ => cw_X4_numberAt cC h h_signs g_count f_signs) (fun _ => rfl) (fun r23 u23 H locs hw hP hD hS => ?_)
    obtain ⟨hn23, hw⟩ := hw
    try dsimp only at hw
    refine lv_bipush (v := (48 : Int32)) hx hb dX4_numberAt_26 (by decide) ?_
    refine lv_isub hx hb dX4_numberAt_28 ?_
    exact z_iret hx hb hr hlocks () hw hP hS dX4_numberAt_29
  have hw := hw.2 c5
  refine lv_aload_n hx hb dX4_numberAt_8 rfl (lv_at hl 0 rfl) ?_
  refine lv_iload_n hx hb dX4_numberAt_9 rfl (lv_at hl 1 rfl) ?_
  refine z_ri (z_runV (As := [.int p1]) (rest := []) hF (c_X4_signAt l D cI cC cZ h h_signs g_count f_signs p1 _ _ hw) (cwV 1 hz (z_gV z2_36 z2_38 zp_0 z1_6 z2_39) rfl rfl rfl hd_X4_signAt ⟨Nat.le_of_ble_eq_true rfl, Nat.le_of_ble_eq_true rfl⟩) hK hP hD [0, 1] rfl rfl 0 4 rfl rfl rfl rfl hl.1 rfl (Nat.le_of_ble_eq_true rfl) dX4_numberAt_10 ⟨Nat.zero_le _, Nat.zero_le _⟩) hP hD hS hA [0, 1] rfl (fun _ => rfl) (fun _ => cw_X4_numberAt cC h h_signs g_count f_signs) (fun _ => rfl) (fun r10 u10 H locs hw hP hD hS => ?_)
  obtain ⟨hn10, hw⟩ := hw
  try dsimp only at hw
  refine lv_bipush (v := (65 : Int32)) hx hb dX4_numberAt_13 (by decide) ?_
  refine lv_isub hx hb dX4_numberAt_15 ?_
  refine lv_goto (tgt := 29) hx hb dX4_numberAt_16 (by decide) ?_
  exact z_iret hx hb hr hlocks () hw hP hS dX4_numberAt_29
abbrev cw_X1_has (h : Nat) (g_places g_creams g_lying g_his g_power g_spite g_hour : Value) (f_present : Int32) : va_W := [(h, .inr (1, [g_places, g_creams, .int f_present, g_lying, g_his, g_power, g_spite, g_hour]))]
abbrev q_X1_has (D : va_G) (h : Nat) (g_places g_creams g_lying g_his g_power g_spite g_hour : Value) (post : Int32 → Prop) (f_present : Int32) (A : Nat → Prop) : Array Value → State → Outcome → State → Prop := va_Qi (S := Unit) (fun r _ => narrow .boolean (.int r) = .int r ∧ post r ) (fun _ t => va_P D vwCl (cw_X1_has h g_places g_creams g_lying g_his g_power g_spite g_hour f_present) t.heap) A
abbrev v_X1_has : List Cond := .code yX1_has cX1_has 2 (some .boolean) :: zB
theorem hd_X1_has : yX1_has.cls = RX1 ∧ yX1_has.cls ≠ "java/lang/invoke/MethodHandle" ∧ yX1_has.cls ≠ "java/lang/invoke/VarHandle" ∧ (parseMethodDescriptor yX1_has.desc).map (fun d => d.parameters.length) = some 1 := by decide +kernel
set_option maxHeartbeats 4000000 in
set_option maxRecDepth 100000 in
theorem c_X1_has (l : Launch) (D : va_G) (cI cC cZ : ClassId) (h : Nat) (g_places g_creams g_lying g_his g_power g_spite g_hour : Value) (f_present : Int32) (p1 : Int32) (sz : Nat) (post : Int32 → Prop) (hw : w_X1_has post f_present p1) : Met l yX1_has v_X1_has ({ frames := 1, cells := 0, slots := 0, locals := 20 } : Room) (va_Pc [.ref h, .int p1] (zPre D (zT cI cC cZ) sz (cw_X1_has h g_places g_creams g_lying g_his g_power g_spite g_hour f_present))) (q_X1_has D h g_places g_creams g_lying g_his g_power g_spite g_hour post f_present (va_A (cw_X1_has h g_places g_creams g_lying g_his g_power g_spite g_hour f_present) sz)) 0 0 (va_A (cw_X1_has h g_places g_creams g_lying g_his g_power g_spite g_hour f_present) sz) := by
  refine Met.ofW (cc := cX1_has) (maxL := 2) (ret := (some .boolean)) (by decide) rfl ?_
  intro p e s m args below meth c s₁ B hml hv
  obtain ⟨rfl, hsz, hP, hK, hD0⟩ := hv
  subst hsz
  have hx := B.exec
  have hb := B.bytes
  have hr := B.returns
  have hz : ∀ w ∈ zB, w.before _ s = true := fun w h => atoms_spec (ws := v_X1_has) B.pre w (List.mem_cons_of_mem _ h)
  have hown : s.vm.findClass RX1 = some m.cls := findClass_of_methodNamed B.named
  have hlocks := B.notSynchronized
  have hF : CallFix p m c cX1_has 2 s (([.ref h, .int p1] : List Value).toArray) zB RX1 := ⟨hx, hb, hml, hown, hz⟩
  have hD := hD0.self (sz := s.heap.size)
  generalize hAe : va_A (cw_X1_has h g_places g_creams g_lying g_his g_power g_spite g_hour f_present) s.heap.size = A at hD ⊢
  have hA : ∀ q : Nat, s.heap.size ≤ q → A q := fun q h => by rw [← hAe]; exact Or.inr h
  have hS : va_S A s.heap s.heap [] := va_S.rf
  have hP : va_P D vwCl (cw_X1_has h g_places g_creams g_lying g_his g_power g_spite g_hour f_present) s.heap := hP
  have hl := lv_entry ([.ref h, .int p1]) (n := 2) (Nat.le_of_ble_eq_true rfl)
  rw [lg_entry_eq]
  generalize (lg_sl ([.ref h, .int p1]) ++ List.replicate (2 - (lg_sl ([.ref h, .int p1])).length) Slot.unset).toArray = ls at hl ⊢
  have hl : lv_has ls 2 [(0, .ref h), (1, .int p1)] := hl
  have J23 : ∀ (H : Heap) (locs : List Loc) (ls : Array Slot) (hw : w_X1_has_B23 post f_present p1) (hP : va_P D vwCl (cw_X1_has h g_places g_creams g_lying g_his g_power g_spite g_hour f_present) H) (hD : va_D A (cw_X1_has h g_places g_creams g_lying g_his g_power g_spite g_hour f_present)) (hS : va_S A s.heap H locs) (hl : lv_has ls 2 []), W p l e (headSpec v_X1_has ({ frames := 1, cells := 0, slots := 0, locals := 20 } : Room)).room s m (([.ref h, .int p1] : List Value).toArray) below meth c H locs 0 0 (MQ below (q_X1_has D h g_places g_creams g_lying g_his g_power g_spite g_hour post f_present A) (([.ref h, .int p1] : List Value).toArray) s 0 0 A) (F0 m 23 ls []) := by
    intro H locs ls hw hP hD hS hl
    unfold w_X1_has_B23 at hw
    refine lv_iconst (v := (0 : Int32)) hx hb dX1_has_23 (by decide) ?_
    exact z_zret hx hb hr hlocks rfl () hw hP hS dX1_has_24
  unfold w_X1_has at hw
  refine lv_iload_n hx hb dX1_has_0 rfl (lv_at hl 1 rfl) ?_
  refine z_ri (z_runSN (As := [.int p1]) (rest := []) hF (c_X8_isWitness l D cI cC cZ p1 _ _ hw) ⟨va_cnB 1 hz (z_gN z1_208) rfl rfl rfl (hK.2.1 _ (List.mem_of_getElem? (i := 18) rfl)) (hz _ z1_1) hd_X8_isWitness ⟨Nat.le_of_ble_eq_true rfl, Nat.le_of_ble_eq_true rfl⟩, (hz _ z1_207), trivial⟩ hK hP hD [] rfl rfl rfl hl.1 rfl (Nat.le_of_ble_eq_true rfl) dX1_has_1 ⟨Nat.zero_le _, Nat.zero_le _⟩) hP hD hS hA [] rfl (fun _ => rfl) (fun _ => cw_X1_has h g_places g_creams g_lying g_his g_power g_spite g_hour f_present) (fun _ => rfl) (fun r1 u1 H locs hw hP hD hS => ?_)
  obtain ⟨hn1, hw⟩ := hw
  try dsimp only at hw
  refine lv_if_eq (tgt := 23) hx hb dX1_has_4 (by decide) (fun c4 => ?_) (fun c4 => ?_)
  · have hw := hw.1 c4
    exact J23 _ _ _ hw hP hD hS (lv_sub hl [] rfl)
  have hw := hw.2 c4
  refine lv_aload_n hx hb dX1_has_7 rfl (lv_at hl 0 rfl) ?_
  refine va_get (D := D) (ci := 1) (v := .int f_present) (C := RX1) (T := TX1) (N := 8) hx hb hz hX_X1 hown hK.1 hP 0 rfl rfl 2 (by decide) (hz _ z1_37) (fun _ h9 => h9) rfl dX1_has_8 ?_
  refine lv_iload_n hx hb dX1_has_11 rfl (lv_at hl 1 rfl) ?_
  refine lv_ishr hx hb dX1_has_12 ?_
  refine lv_iconst (v := (1 : Int32)) hx hb dX1_has_13 (by decide) ?_
  refine lv_iand hx hb dX1_has_14 ?_
  refine lv_iconst (v := (1 : Int32)) hx hb dX1_has_15 (by decide) ?_
  refine lv_icmp_ne (tgt := 23) hx hb dX1_has_16 (by decide) (fun c16 => ?_) (fun c16 => ?_)
  · have hw := hw.2 c16
    exact J23 _ _ _ hw hP hD hS (lv_sub hl [] rfl)
  have hw := hw.1 c16
  refine lv_iconst (v := (1 : Int32)) hx hb dX1_has_19 (by decide) ?_
  refine lv_goto (tgt := 24) hx hb dX1_has_20 (by decide) ?_
  exact z_zret hx hb hr hlocks rfl () hw hP hS dX1_has_24
abbrev cw_X1_creamOf (cI : ClassId) (h h_creams : Nat) (g_places g_present g_lying g_his g_power g_spite g_hour : Value) (f_creams : Nat → Int32) : va_W := [(h, .inr (1, [g_places, .ref h_creams, g_present, g_lying, g_his, g_power, g_spite, g_hour])), (h_creams, .inl (cI, 8, .inl f_creams))]
abbrev q_X1_creamOf (D : va_G) (cI : ClassId) (h h_creams : Nat) (g_places g_present g_lying g_his g_power g_spite g_hour : Value) (post : Int32 → Prop) (f_creams : Nat → Int32) (A : Nat → Prop) : Array Value → State → Outcome → State → Prop := va_Qi (S := Unit) (fun r _ => post r ) (fun _ t => va_P D vwCl (cw_X1_creamOf cI h h_creams g_places g_present g_lying g_his g_power g_spite g_hour f_creams) t.heap) A
abbrev v_X1_creamOf : List Cond := .code yX1_creamOf cX1_creamOf 2 (some .int) :: zB
theorem hd_X1_creamOf : yX1_creamOf.cls = RX1 ∧ yX1_creamOf.cls ≠ "java/lang/invoke/MethodHandle" ∧ yX1_creamOf.cls ≠ "java/lang/invoke/VarHandle" ∧ (parseMethodDescriptor yX1_creamOf.desc).map (fun d => d.parameters.length) = some 1 := by decide +kernel
set_option maxHeartbeats 4000000 in
set_option maxRecDepth 100000 in
theorem c_X1_creamOf (l : Launch) (D : va_G) (cI cC cZ : ClassId) (h h_creams : Nat) (g_places g_present g_lying g_his g_power g_spite g_hour : Value) (f_creams : Nat → Int32) (p1 : Int32) (sz : Nat) (post : Int32 → Prop) (hw : w_X1_creamOf post f_creams p1) : Met l yX1_creamOf v_X1_creamOf ({ frames := 1, cells := 0, slots := 0, locals := 20 } : Room) (va_Pc [.ref h, .int p1] (zPre D (zT cI cC cZ) sz (cw_X1_creamOf cI h h_creams g_places g_present g_lying g_his g_power g_spite g_hour f_creams))) (q_X1_creamOf D cI h h_creams g_places g_present g_lying g_his g_power g_spite g_hour post f_creams (va_A (cw_X1_creamOf cI h h_creams g_places g_present g_lying g_his g_power g_spite g_hour f_creams) sz)) 0 0 (va_A (cw_X1_creamOf cI h h_creams g_places g_present g_lying g_his g_power g_spite g_hour f_creams) sz) := by
  refine Met.ofW (cc := cX1_creamOf) (maxL := 2) (ret := (some .int)) (by decide) rfl ?_
  intro p e s m args below meth c s₁ B hml hv
  obtain ⟨rfl, hsz, hP, hK, hD0⟩ := hv
  subst hsz
  have hx := B.exec
  have hb := B.bytes
  have hr := B.returns
  have hz : ∀ w ∈ zB, w.before _ s = true := fun w h => atoms_spec (ws := v_X1_creamOf) B.pre w (List.mem_cons_of_mem _ h)
  have hown : s.vm.findClass RX1 = some m.cls := findClass_of_methodNamed B.named
  have hlocks := B.notSynchronized
  have hF : CallFix p m c cX1_creamOf 2 s (([.ref h, .int p1] : List Value).toArray) zB RX1 := ⟨hx, hb, hml, hown, hz⟩
  have hD := hD0.self (sz := s.heap.size)
  generalize hAe : va_A (cw_X1_creamOf cI h h_creams g_places g_present g_lying g_his g_power g_spite g_hour f_creams) s.heap.size = A at hD ⊢
  have hA : ∀ q : Nat, s.heap.size ≤ q → A q := fun q h => by rw [← hAe]; exact Or.inr h
  have hS : va_S A s.heap s.heap [] := va_S.rf
  have hP : va_P D vwCl (cw_X1_creamOf cI h h_creams g_places g_present g_lying g_his g_power g_spite g_hour f_creams) s.heap := hP
  have hl := lv_entry ([.ref h, .int p1]) (n := 2) (Nat.le_of_ble_eq_true rfl)
  rw [lg_entry_eq]
  generalize (lg_sl ([.ref h, .int p1]) ++ List.replicate (2 - (lg_sl ([.ref h, .int p1])).length) Slot.unset).toArray = ls at hl ⊢
  have hl : lv_has ls 2 [(0, .ref h), (1, .int p1)] := hl
  unfold w_X1_creamOf at hw
  refine lv_iload_n hx hb dX1_creamOf_0 rfl (lv_at hl 1 rfl) ?_
  refine z_ri (z_runSN (As := [.int p1]) (rest := []) hF (c_X8_isWitness l D cI cC cZ p1 _ _ hw) ⟨va_cnB 1 hz (z_gN z1_208) rfl rfl rfl (hK.2.1 _ (List.mem_of_getElem? (i := 18) rfl)) (hz _ z1_1) hd_X8_isWitness ⟨Nat.le_of_ble_eq_true rfl, Nat.le_of_ble_eq_true rfl⟩, (hz _ z1_207), trivial⟩ hK hP hD [] rfl rfl rfl hl.1 rfl (Nat.le_of_ble_eq_true rfl) dX1_creamOf_1 ⟨Nat.zero_le _, Nat.zero_le _⟩) hP hD hS hA [] rfl (fun _ => rfl) (fun _ => cw_X1_creamOf cI h h_creams g_places g_present g_lying g_his g_power g_spite g_hour f_creams) (fun _ => rfl) (fun r1 u1 H locs hw hP hD hS => ?_)
  obtain ⟨hn1, hw⟩ := hw
  try dsimp only at hw
  refine lv_if_eq (tgt := 16) hx hb dX1_creamOf_4 (by decide) (fun c4 => ?_) (fun c4 => ?_)
  · have hw := hw.1 c4
    refine lv_iconst (v := (0 : Int32)) hx hb dX1_creamOf_16 (by decide) ?_
    exact z_iret hx hb hr hlocks () hw hP hS dX1_creamOf_17
  have hw := hw.2 c4
  refine lv_aload_n hx hb dX1_creamOf_7 rfl (lv_at hl 0 rfl) ?_
  refine va_get (D := D) (ci := 1) (v := .ref h_creams) (C := RX1) (T := TX1) (N := 8) hx hb hz hX_X1 hown hK.1 hP 0 rfl rfl 1 (by decide) (hz _ z1_36) (fun _ h9 => h9) rfl dX1_creamOf_8 ?_
  refine lv_iload_n hx hb dX1_creamOf_11 rfl (lv_at hl 1 rfl) ?_
  obtain ⟨hi12, hw⟩ := hw
  refine va_iald hx hb hK.1 hP 1 0 rfl rfl hi12 dX1_creamOf_12 ?_
  refine lv_goto (tgt := 17) hx hb dX1_creamOf_13 (by decide) ?_
  exact z_iret hx hb hr hlocks () hw hP hS dX1_creamOf_17
abbrev cw_X1_placesOff (cI : ClassId) (h h_places : Nat) (g_creams g_present g_lying g_power g_spite g_hour : Value) (f_places : Nat → Int32) (f_his : Int32) : va_W := [(h, .inr (1, [.ref h_places, g_creams, g_present, g_lying, .int f_his, g_power, g_spite, g_hour])), (h_places, .inl (cI, 8, .inl f_places))]
abbrev q_X1_placesOff (D : va_G) (cI : ClassId) (h h_places : Nat) (g_creams g_present g_lying g_power g_spite g_hour : Value) (post : Int32 → Prop) (f_places : Nat → Int32) (f_his : Int32) (A : Nat → Prop) : Array Value → State → Outcome → State → Prop := va_Qi (S := Unit) (fun r _ => post r ) (fun _ t => va_P D vwCl (cw_X1_placesOff cI h h_places g_creams g_present g_lying g_power g_spite g_hour f_places f_his) t.heap) A
abbrev v_X1_placesOff : List Cond := .code yX1_placesOff cX1_placesOff 2 (some .int) :: zB
theorem hd_X1_placesOff : yX1_placesOff.cls = RX1 ∧ yX1_placesOff.cls ≠ "java/lang/invoke/MethodHandle" ∧ yX1_placesOff.cls ≠ "java/lang/invoke/VarHandle" ∧ (parseMethodDescriptor yX1_placesOff.desc).map (fun d => d.parameters.length) = some 1 := by decide +kernel
set_option maxHeartbeats 4000000 in
set_option maxRecDepth 100000 in
theorem c_X1_placesOff (l : Launch) (D : va_G) (cI cC cZ : ClassId) (h h_places : Nat) (g_creams g_present g_lying g_power g_spite g_hour : Value) (f_places : Nat → Int32) (f_his : Int32) (p1 : Int32) (sz : Nat) (post : Int32 → Prop) (hw : w_X1_placesOff post f_places f_his p1) : Met l yX1_placesOff v_X1_placesOff ({ frames := 1, cells := 0, slots := 0, locals := 30 } : Room) (va_Pc [.ref h, .int p1] (zPre D (zT cI cC cZ) sz (cw_X1_placesOff cI h h_places g_creams g_present g_lying g_power g_spite g_hour f_places f_his))) (q_X1_placesOff D cI h h_places g_creams g_present g_lying g_power g_spite g_hour post f_places f_his (va_A (cw_X1_placesOff cI h h_places g_creams g_present g_lying g_power g_spite g_hour f_places f_his) sz)) 0 0 (va_A (cw_X1_placesOff cI h h_places g_creams g_present g_lying g_power g_spite g_hour f_places f_his) sz) := by
  refine Met.ofW (cc := cX1_placesOff) (maxL := 2) (ret := (some .int)) (by decide) rfl ?_
  intro p e s m args below meth c s₁ B hml hv
  obtain ⟨rfl, hsz, hP, hK, hD0⟩ := hv
  subst hsz
  have hx := B.exec
  have hb := B.bytes
  have hr := B.returns
  have hz : ∀ w ∈ zB, w.before _ s = true := fun w h => atoms_spec (ws := v_X1_placesOff) B.pre w (List.mem_cons_of_mem _ h)
  have hown : s.vm.findClass RX1 = some m.cls := findClass_of_methodNamed B.named
  have hlocks := B.notSynchronized
  have hF : CallFix p m c cX1_placesOff 2 s (([.ref h, .int p1] : List Value).toArray) zB RX1 := ⟨hx, hb, hml, hown, hz⟩
  have hD := hD0.self (sz := s.heap.size)
  generalize hAe : va_A (cw_X1_placesOff cI h h_places g_creams g_present g_lying g_power g_spite g_hour f_places f_his) s.heap.size = A at hD ⊢
  have hA : ∀ q : Nat, s.heap.size ≤ q → A q := fun q h => by rw [← hAe]; exact Or.inr h
  have hS : va_S A s.heap s.heap [] := va_S.rf
  have hP : va_P D vwCl (cw_X1_placesOff cI h h_places g_creams g_present g_lying g_power g_spite g_hour f_places f_his) s.heap := hP
  have hl := lv_entry ([.ref h, .int p1]) (n := 2) (Nat.le_of_ble_eq_true rfl)
  rw [lg_entry_eq]
  generalize (lg_sl ([.ref h, .int p1]) ++ List.replicate (2 - (lg_sl ([.ref h, .int p1])).length) Slot.unset).toArray = ls at hl ⊢
  have hl : lv_has ls 2 [(0, .ref h), (1, .int p1)] := hl
  unfold w_X1_placesOff at hw
  refine lv_iload_n hx hb dX1_placesOff_0 rfl (lv_at hl 1 rfl) ?_
  refine z_ri (z_runSN (As := [.int p1]) (rest := []) hF (c_X8_isWitness l D cI cC cZ p1 _ _ hw) ⟨va_cnB 1 hz (z_gN z1_208) rfl rfl rfl (hK.2.1 _ (List.mem_of_getElem? (i := 18) rfl)) (hz _ z1_1) hd_X8_isWitness ⟨Nat.le_of_ble_eq_true rfl, Nat.le_of_ble_eq_true rfl⟩, (hz _ z1_207), trivial⟩ hK hP hD [] rfl rfl rfl hl.1 rfl (Nat.le_of_ble_eq_true rfl) dX1_placesOff_1 ⟨Nat.zero_le _, Nat.zero_le _⟩) hP hD hS hA [] rfl (fun _ => rfl) (fun _ => cw_X1_placesOff cI h h_places g_creams g_present g_lying g_power g_spite g_hour f_places f_his) (fun _ => rfl) (fun r1 u1 H locs hw hP hD hS => ?_)
  obtain ⟨hn1, hw⟩ := hw
  try dsimp only at hw
  refine lv_if_eq (tgt := 24) hx hb dX1_placesOff_4 (by decide) (fun c4 => ?_) (fun c4 => ?_)
  · have hw := hw.1 c4
    refine lv_bipush (v := (16 : Int32)) hx hb dX1_placesOff_24 (by decide) ?_
    exact z_iret hx hb hr hlocks () hw hP hS dX1_placesOff_26
  have hw := hw.2 c4
  refine lv_aload_n hx hb dX1_placesOff_7 rfl (lv_at hl 0 rfl) ?_
  refine va_get (D := D) (ci := 1) (v := .ref h_places) (C := RX1) (T := TX1) (N := 8) hx hb hz hX_X1 hown hK.1 hP 0 rfl rfl 0 (by decide) (hz _ z1_35) (fun _ h9 => h9) rfl dX1_placesOff_8 ?_
  refine lv_iload_n hx hb dX1_placesOff_11 rfl (lv_at hl 1 rfl) ?_
  obtain ⟨hi12, hw⟩ := hw
  refine va_iald hx hb hK.1 hP 1 0 rfl rfl hi12 dX1_placesOff_12 ?_
  refine lv_aload_n hx hb dX1_placesOff_13 rfl (lv_at hl 0 rfl) ?_
  refine va_get (D := D) (ci := 1) (v := .int f_his) (C := RX1) (T := TX1) (N := 8) hx hb hz hX_X1 hown hK.1 hP 0 rfl rfl 4 (by decide) (hz _ z1_40) (fun _ h9 => h9) rfl dX1_placesOff_14 ?_
  refine lv_isub hx hb dX1_placesOff_17 ?_
  refine va_mabs hx hb (hml.trans hl.1.symm) hown (hz _ z2_106) (hz _ z2_107) (hz _ z1_13) (hz _ z2_108) (Nat.le_of_ble_eq_true rfl) (Nat.le_of_ble_eq_true rfl) (Nat.zero_le _) (Nat.zero_le _) dX1_placesOff_18 ?_
  refine lv_goto (tgt := 26) hx hb dX1_placesOff_21 (by decide) ?_
  exact z_iret hx hb hr hlocks () hw hP hS dX1_placesOff_26
abbrev cw_X1_whyNotTo (cI : ClassId) (h h_places h_creams : Nat) (g_present g_lying g_power g_spite g_hour : Value) (f_places : Nat → Int32) (f_creams : Nat → Int32) (f_his : Int32) : va_W := [(h, .inr (1, [.ref h_places, .ref h_creams, g_present, g_lying, .int f_his, g_power, g_spite, g_hour])), (h_places, .inl (cI, 8, .inl f_places)), (h_creams, .inl (cI, 8, .inl f_creams))]
abbrev q_X1_whyNotTo (D : va_G) (cI : ClassId) (h h_places h_creams : Nat) (g_present g_lying g_power g_spite g_hour : Value) (post : Int32 → Prop) (f_places : Nat → Int32) (f_creams : Nat → Int32) (f_his : Int32) (A : Nat → Prop) : Array Value → State → Outcome → State → Prop := va_Qi (S := Unit) (fun r _ => post r ) (fun _ t => va_P D vwCl (cw_X1_whyNotTo cI h h_places h_creams g_present g_lying g_power g_spite g_hour f_places f_creams f_his) t.heap) A
abbrev v_X1_whyNotTo : List Cond := .code yX1_whyNotTo cX1_whyNotTo 4 (some .int) :: zB
theorem hd_X1_whyNotTo : yX1_whyNotTo.cls = RX1 ∧ yX1_whyNotTo.cls ≠ "java/lang/invoke/MethodHandle" ∧ yX1_whyNotTo.cls ≠ "java/lang/invoke/VarHandle" ∧ (parseMethodDescriptor yX1_whyNotTo.desc).map (fun d => d.parameters.length) = some 2 := by decide +kernel
set_option maxHeartbeats 4000000 in
set_option maxRecDepth 100000 in
theorem c_X1_whyNotTo (l : Launch) (D : va_G) (cI cC cZ : ClassId) (h h_places h_creams : Nat) (g_present g_lying g_power g_spite g_hour : Value) (f_places : Nat → Int32) (f_creams : Nat → Int32) (f_his : Int32) (p1 : Int32) (p2 : Int32) (sz : Nat) (post : Int32 → Prop) (hw : w_X1_whyNotTo post f_places f_creams f_his p1 p2) : Met l yX1_whyNotTo v_X1_whyNotTo ({ frames := 2, cells := 0, slots := 0, locals := 51 } : Room) (va_Pc [.ref h, .int p1, .int p2] (zPre D (zT cI cC cZ) sz (cw_X1_whyNotTo cI h h_places h_creams g_present g_lying g_power g_spite g_hour f_places f_creams f_his))) (q_X1_whyNotTo D cI h h_places h_creams g_present g_lying g_power g_spite g_hour post f_places f_creams f_his (va_A (cw_X1_whyNotTo cI h h_places h_creams g_present g_lying g_power g_spite g_hour f_places f_creams f_his) sz)) 0 0 (va_A (cw_X1_whyNotTo cI h h_places h_creams g_present g_lying g_power g_spite g_hour f_places f_creams f_his) sz) := by
  refine Met.ofW (cc := cX1_whyNotTo) (maxL := 4) (ret := (some .int)) (by decide) rfl ?_
  intro p e s m args below meth c s₁ B hml hv
  obtain ⟨rfl, hsz, hP, hK, hD0⟩ := hv
  subst hsz
  have hx := B.exec
  have hb := B.bytes
  have hr := B.returns
  have hz : ∀ w ∈ zB, w.before _ s = true := fun w h => atoms_spec (ws := v_X1_whyNotTo) B.pre w (List.mem_cons_of_mem _ h)
  have hown : s.vm.findClass RX1 = some m.cls := findClass_of_methodNamed B.named
  have hlocks := B.notSynchronized
  have hF : CallFix p m c cX1_whyNotTo 4 s (([.ref h, .int p1, .int p2] : List Value).toArray) zB RX1 := ⟨hx, hb, hml, hown, hz⟩
  have hD := hD0.self (sz := s.heap.size)
  generalize hAe : va_A (cw_X1_whyNotTo cI h h_places h_creams g_present g_lying g_power g_spite g_hour f_places f_creams f_his) s.heap.size = A at hD ⊢
  have hA : ∀ q : Nat, s.heap.size ≤ q → A q := fun q h => by rw [← hAe]; exact Or.inr h
  have hS : va_S A s.heap s.heap [] := va_S.rf
  have hP : va_P D vwCl (cw_X1_whyNotTo cI h h_places h_creams g_present g_lying g_power g_spite g_hour f_places f_creams f_his) s.heap := hP
  have hl := lv_entry ([.ref h, .int p1, .int p2]) (n := 4) (Nat.le_of_ble_eq_true rfl)
  rw [lg_entry_eq]
  generalize (lg_sl ([.ref h, .int p1, .int p2]) ++ List.replicate (4 - (lg_sl ([.ref h, .int p1, .int p2])).length) Slot.unset).toArray = ls at hl ⊢
  have hl : lv_has ls 4 [(0, .ref h), (1, .int p1), (2, .int p2)] := hl
  have J35 : ∀ (x3 : Int32) (H : Heap) (locs : List Loc) (ls : Array Slot) (hw : w_X1_whyNotTo_B35 post f_places f_creams f_his p1 p2 x3) (hP : va_P D vwCl (cw_X1_whyNotTo cI h h_places h_creams g_present g_lying g_power g_spite g_hour f_places f_creams f_his) H) (hD : va_D A (cw_X1_whyNotTo cI h h_places h_creams g_present g_lying g_power g_spite g_hour f_places f_creams f_his)) (hS : va_S A s.heap H locs) (hl : lv_has ls 4 [(1, .int p1), (3, .int x3)]), W p l e (headSpec v_X1_whyNotTo ({ frames := 2, cells := 0, slots := 0, locals := 51 } : Room)).room s m (([.ref h, .int p1, .int p2] : List Value).toArray) below meth c H locs 0 0 (MQ below (q_X1_whyNotTo D cI h h_places h_creams g_present g_lying g_power g_spite g_hour post f_places f_creams f_his A) (([.ref h, .int p1, .int p2] : List Value).toArray) s 0 0 A) (F0 m 35 ls []) := by
    intro x3 H locs ls hw hP hD hS hl
    unfold w_X1_whyNotTo_B35 at hw
    refine lv_iload_n hx hb dX1_whyNotTo_35 rfl (lv_at hl 0 rfl) ?_
    refine lv_bipush (v := (61 : Int32)) hx hb dX1_whyNotTo_36 (by decide) ?_
    refine lv_icmp_ne (tgt := 49) hx hb dX1_whyNotTo_38 (by decide) (fun c38 => ?_) (fun c38 => ?_)
    · have hw := hw.2 c38
      refine lv_iconst (v := (0 : Int32)) hx hb dX1_whyNotTo_49 (by decide) ?_
      exact z_iret hx hb hr hlocks () hw hP hS dX1_whyNotTo_50
    have hw := hw.1 c38
    refine lv_iload_n hx hb dX1_whyNotTo_41 rfl (lv_at hl 1 rfl) ?_
    refine lv_bipush (v := (50 : Int32)) hx hb dX1_whyNotTo_42 (by decide) ?_
    refine lv_icmp_lt (tgt := 49) hx hb dX1_whyNotTo_44 (by decide) (fun c44 => ?_) (fun c44 => ?_)
    · have hw := hw.1 c44
      refine lv_iconst (v := (0 : Int32)) hx hb dX1_whyNotTo_49 (by decide) ?_
      exact z_iret hx hb hr hlocks () hw hP hS dX1_whyNotTo_50
    have hw := hw.2 c44
    refine lv_iconst (v := (4 : Int32)) hx hb dX1_whyNotTo_47 (by decide) ?_
    exact z_iret hx hb hr hlocks () hw hP hS dX1_whyNotTo_48
  have J23 : ∀ (x3 : Int32) (H : Heap) (locs : List Loc) (ls : Array Slot) (hw : w_X1_whyNotTo_B23 post f_places f_creams f_his p1 p2 x3) (hP : va_P D vwCl (cw_X1_whyNotTo cI h h_places h_creams g_present g_lying g_power g_spite g_hour f_places f_creams f_his) H) (hD : va_D A (cw_X1_whyNotTo cI h h_places h_creams g_present g_lying g_power g_spite g_hour f_places f_creams f_his)) (hS : va_S A s.heap H locs) (hl : lv_has ls 4 [(1, .int p1), (3, .int x3)]), W p l e (headSpec v_X1_whyNotTo ({ frames := 2, cells := 0, slots := 0, locals := 51 } : Room)).room s m (([.ref h, .int p1, .int p2] : List Value).toArray) below meth c H locs 0 0 (MQ below (q_X1_whyNotTo D cI h h_places h_creams g_present g_lying g_power g_spite g_hour post f_places f_creams f_his A) (([.ref h, .int p1, .int p2] : List Value).toArray) s 0 0 A) (F0 m 23 ls []) := by
    intro x3 H locs ls hw hP hD hS hl
    unfold w_X1_whyNotTo_B23 at hw
    refine lv_iload_n hx hb dX1_whyNotTo_23 rfl (lv_at hl 0 rfl) ?_
    refine lv_bipush (v := (63 : Int32)) hx hb dX1_whyNotTo_24 (by decide) ?_
    refine lv_icmp_ne (tgt := 35) hx hb dX1_whyNotTo_26 (by decide) (fun c26 => ?_) (fun c26 => ?_)
    · have hw := hw.2 c26
      exact J35 x3 _ _ _ hw hP hD hS (lv_sub hl [0, 1] rfl)
    have hw := hw.1 c26
    refine lv_iload_n hx hb dX1_whyNotTo_29 rfl (lv_at hl 1 rfl) ?_
    refine lv_if_ne (tgt := 35) hx hb dX1_whyNotTo_30 (by decide) (fun c30 => ?_) (fun c30 => ?_)
    · have hw := hw.2 c30
      exact J35 x3 _ _ _ hw hP hD hS (lv_sub hl [0, 1] rfl)
    have hw := hw.1 c30
    refine lv_iconst (v := (4 : Int32)) hx hb dX1_whyNotTo_33 (by decide) ?_
    exact z_iret hx hb hr hlocks () hw hP hS dX1_whyNotTo_34
  unfold w_X1_whyNotTo at hw
  refine lv_aload_n hx hb dX1_whyNotTo_0 rfl (lv_at hl 0 rfl) ?_
  refine lv_iload_n hx hb dX1_whyNotTo_1 rfl (lv_at hl 2 rfl) ?_
  refine z_ri (z_runV (As := [.int p2]) (rest := []) hF (c_X1_creamOf l D cI cC cZ h h_creams (.ref h_places) g_present g_lying (.int f_his) g_power g_spite g_hour f_creams p2 _ _ hw) (cwV 1 hz (z_gV z2_98 z2_99 z2_100 z1_3 z2_101) rfl rfl rfl hd_X1_creamOf ⟨Nat.le_of_ble_eq_true rfl, Nat.le_of_ble_eq_true rfl⟩) hK hP hD [0, 2] rfl rfl 0 1 rfl rfl rfl rfl hl.1 rfl (Nat.le_of_ble_eq_true rfl) dX1_whyNotTo_2 ⟨Nat.zero_le _, Nat.zero_le _⟩) hP hD hS hA [0, 2] rfl (fun _ => rfl) (fun _ => cw_X1_whyNotTo cI h h_places h_creams g_present g_lying g_power g_spite g_hour f_places f_creams f_his) (fun _ => rfl) (fun r2 u2 H locs hw hP hD hS => ?_)
  try dsimp only at hw
  refine lv_istore_n (lv' := [(3, .int r2), (0, .ref h), (1, .int p1), (2, .int p2)]) hx hb dX1_whyNotTo_5 rfl hl (by decide) rfl (fun ls hl => ?_)
  refine lv_iload_n hx hb dX1_whyNotTo_6 rfl (lv_at hl 2 rfl) ?_
  refine lv_bipush (v := (63 : Int32)) hx hb dX1_whyNotTo_7 (by decide) ?_
  refine lv_icmp_ne (tgt := 23) hx hb dX1_whyNotTo_9 (by decide) (fun c9 => ?_) (fun c9 => ?_)
  · have hw := hw.2 c9
    exact J23 r2 _ _ _ hw hP hD hS (lv_sub hl [2, 0] rfl)
  have hw := hw.1 c9
  refine lv_aload_n hx hb dX1_whyNotTo_12 rfl (lv_at hl 1 rfl) ?_
  refine lv_iload_n hx hb dX1_whyNotTo_13 rfl (lv_at hl 3 rfl) ?_
  refine z_ri (z_runV (As := [.int p2]) (rest := []) hF (c_X1_placesOff l D cI cC cZ h h_places (.ref h_creams) g_present g_lying g_power g_spite g_hour f_places f_his p2 _ _ hw) (cwV 1 hz (z_gV z2_102 z2_104 zp_7 z1_3 z2_105) rfl rfl rfl hd_X1_placesOff ⟨Nat.le_of_ble_eq_true rfl, Nat.le_of_ble_eq_true rfl⟩) hK hP hD [0, 1] rfl rfl 0 1 rfl rfl rfl rfl hl.1 rfl (Nat.le_of_ble_eq_true rfl) dX1_whyNotTo_14 ⟨Nat.zero_le _, Nat.zero_le _⟩) hP hD hS hA [0, 1] rfl (fun _ => rfl) (fun _ => cw_X1_whyNotTo cI h h_places h_creams g_present g_lying g_power g_spite g_hour f_places f_creams f_his) (fun _ => rfl) (fun r14 u14 H locs hw hP hD hS => ?_)
  try dsimp only at hw
  refine lv_iconst (v := (1 : Int32)) hx hb dX1_whyNotTo_17 (by decide) ?_
  refine lv_icmp_le (tgt := 23) hx hb dX1_whyNotTo_18 (by decide) (fun c18 => ?_) (fun c18 => ?_)
  · have hw := hw.1 c18
    exact J23 r2 _ _ _ hw hP hD hS (lv_sub hl [2, 0] rfl)
  have hw := hw.2 c18
  refine lv_iconst (v := (3 : Int32)) hx hb dX1_whyNotTo_21 (by decide) ?_
  exact z_iret hx hb hr hlocks () hw hP hS dX1_whyNotTo_22
abbrev cw_X1_whyNot (cI : ClassId) (h h_places h_creams : Nat) (g_lying g_power g_spite : Value) (f_places : Nat → Int32) (f_creams : Nat → Int32) (f_present : Int32) (f_his : Int32) (f_hour : Int32) : va_W := [(h, .inr (1, [.ref h_places, .ref h_creams, .int f_present, g_lying, .int f_his, g_power, g_spite, .int f_hour])), (h_places, .inl (cI, 8, .inl f_places)), (h_creams, .inl (cI, 8, .inl f_creams))]
abbrev q_X1_whyNot (D : va_G) (cI : ClassId) (h h_places h_creams : Nat) (g_lying g_power g_spite : Value) (post : Int32 → Prop) (f_places : Nat → Int32) (f_creams : Nat → Int32) (f_present : Int32) (f_his : Int32) (f_hour : Int32) (A : Nat → Prop) : Array Value → State → Outcome → State → Prop := va_Qi (S := Unit) (fun r _ => post r ) (fun _ t => va_P D vwCl (cw_X1_whyNot cI h h_places h_creams g_lying g_power g_spite f_places f_creams f_present f_his f_hour) t.heap) A
abbrev v_X1_whyNot : List Cond := .code yX1_whyNot cX1_whyNot 3 (some .int) :: zB
theorem hd_X1_whyNot : yX1_whyNot.cls = RX1 ∧ yX1_whyNot.cls ≠ "java/lang/invoke/MethodHandle" ∧ yX1_whyNot.cls ≠ "java/lang/invoke/VarHandle" ∧ (parseMethodDescriptor yX1_whyNot.desc).map (fun d => d.parameters.length) = some 2 := by decide +kernel
set_option maxHeartbeats 4000000 in
set_option maxRecDepth 100000 in
theorem c_X1_whyNot (l : Launch) (D : va_G) (cI cC cZ : ClassId) (h h_places h_creams : Nat) (g_lying g_power g_spite : Value) (f_places : Nat → Int32) (f_creams : Nat → Int32) (f_present : Int32) (f_his : Int32) (f_hour : Int32) (p1 : Int32) (p2 : Int32) (sz : Nat) (post : Int32 → Prop) (hw : w_X1_whyNot post f_places f_creams f_present f_his f_hour p1 p2) : Met l yX1_whyNot v_X1_whyNot ({ frames := 3, cells := 0, slots := 0, locals := 74 } : Room) (va_Pc [.ref h, .int p1, .int p2] (zPre D (zT cI cC cZ) sz (cw_X1_whyNot cI h h_places h_creams g_lying g_power g_spite f_places f_creams f_present f_his f_hour))) (q_X1_whyNot D cI h h_places h_creams g_lying g_power g_spite post f_places f_creams f_present f_his f_hour (va_A (cw_X1_whyNot cI h h_places h_creams g_lying g_power g_spite f_places f_creams f_present f_his f_hour) sz)) 0 0 (va_A (cw_X1_whyNot cI h h_places h_creams g_lying g_power g_spite f_places f_creams f_present f_his f_hour) sz) := by
  refine Met.ofW (cc := cX1_whyNot) (maxL := 3) (ret := (some .int)) (by decide) rfl ?_
  intro p e s m args below meth c s₁ B hml hv
  obtain ⟨rfl, hsz, hP, hK, hD0⟩ := hv
  subst hsz
  have hx := B.exec
  have hb := B.bytes
  have hr := B.returns
  have hz : ∀ w ∈ zB, w.before _ s = true := fun w h => atoms_spec (ws := v_X1_whyNot) B.pre w (List.mem_cons_of_mem _ h)
  have hown : s.vm.findClass RX1 = some m.cls := findClass_of_methodNamed B.named
  have hlocks := B.notSynchronized
  have hF : CallFix p m c cX1_whyNot 3 s (([.ref h, .int p1, .int p2] : List Value).toArray) zB RX1 := ⟨hx, hb, hml, hown, hz⟩
  have hD := hD0.self (sz := s.heap.size)
  generalize hAe : va_A (cw_X1_whyNot cI h h_places h_creams g_lying g_power g_spite f_places f_creams f_present f_his f_hour) s.heap.size = A at hD ⊢
  have hA : ∀ q : Nat, s.heap.size ≤ q → A q := fun q h => by rw [← hAe]; exact Or.inr h
  have hS : va_S A s.heap s.heap [] := va_S.rf
  have hP : va_P D vwCl (cw_X1_whyNot cI h h_places h_creams g_lying g_power g_spite f_places f_creams f_present f_his f_hour) s.heap := hP
  have hl := lv_entry ([.ref h, .int p1, .int p2]) (n := 3) (Nat.le_of_ble_eq_true rfl)
  rw [lg_entry_eq]
  generalize (lg_sl ([.ref h, .int p1, .int p2]) ++ List.replicate (3 - (lg_sl ([.ref h, .int p1, .int p2])).length) Slot.unset).toArray = ls at hl ⊢
  have hl : lv_has ls 3 [(0, .ref h), (1, .int p1), (2, .int p2)] := hl
  unfold w_X1_whyNot at hw
  refine lv_iload_n hx hb dX1_whyNot_0 rfl (lv_at hl 1 rfl) ?_
  by_cases c1_46 : p1 = (46 : Int32)
  · have hw := hw.1 c1_46
    refine lv_lookup (off := 71) (tgt := 72) hx hb dX1_whyNot_1 (by decide) (by rw [c1_46]; rfl) (by decide) ?_
    refine lv_aload_n hx hb dX1_whyNot_72 rfl (lv_at hl 0 rfl) ?_
    refine va_get (D := D) (ci := 1) (v := .int f_hour) (C := RX1) (T := TX1) (N := 8) hx hb hz hX_X1 hown hK.1 hP 0 rfl rfl 7 (by decide) (hz _ z1_46) (fun _ h9 => h9) rfl dX1_whyNot_73 ?_
    refine lv_bipush (v := (99 : Int32)) hx hb dX1_whyNot_76 (by decide) ?_
    refine lv_icmp_ge (tgt := 85) hx hb dX1_whyNot_78 (by decide) (fun c78 => ?_) (fun c78 => ?_)
    · have hw := hw.1 c78
      refine lv_iconst (v := (5 : Int32)) hx hb dX1_whyNot_85 (by decide) ?_
      exact z_iret hx hb hr hlocks () hw hP hS dX1_whyNot_86
    have hw := hw.2 c78
    refine lv_iconst (v := (0 : Int32)) hx hb dX1_whyNot_81 (by decide) ?_
    refine lv_goto (tgt := 86) hx hb dX1_whyNot_82 (by decide) ?_
    exact z_iret hx hb hr hlocks () hw hP hS dX1_whyNot_86
  have hw := hw.2 c1_46
  have i1_46 : p1.toInt ≠ 46 := fun h => c1_46 (Int32.toInt_inj.mp (h.trans (by decide)))
  by_cases c1_60 : p1 = (60 : Int32)
  · have hw := hw.1 c1_60
    refine lv_lookup (off := 53) (tgt := 54) hx hb dX1_whyNot_1 (by decide) (by rw [c1_60]; rfl) (by decide) ?_
    refine lv_aload_n hx hb dX1_whyNot_54 rfl (lv_at hl 0 rfl) ?_
    refine va_get (D := D) (ci := 1) (v := .int f_his) (C := RX1) (T := TX1) (N := 8) hx hb hz hX_X1 hown hK.1 hP 0 rfl rfl 4 (by decide) (hz _ z1_40) (fun _ h9 => h9) rfl dX1_whyNot_55 ?_
    refine lv_iload_n hx hb dX1_whyNot_58 rfl (lv_at hl 2 rfl) ?_
    refine lv_isub hx hb dX1_whyNot_59 ?_
    refine z_ri (z_runSN (As := [.int (f_his - p2)]) (rest := []) hF (c_X8_isPlace l D cI cC cZ (f_his - p2) _ _ hw) ⟨va_cnB 1 hz (z_gN z1_211) rfl rfl rfl (hK.2.1 _ (List.mem_of_getElem? (i := 22) rfl)) (hz _ z1_1) hd_X8_isPlace ⟨Nat.le_of_ble_eq_true rfl, Nat.le_of_ble_eq_true rfl⟩, (hz _ z1_210), trivial⟩ hK hP hD [] rfl rfl rfl hl.1 rfl (Nat.le_of_ble_eq_true rfl) dX1_whyNot_60 ⟨Nat.zero_le _, Nat.zero_le _⟩) hP hD hS hA [] rfl (fun _ => rfl) (fun _ => cw_X1_whyNot cI h h_places h_creams g_lying g_power g_spite f_places f_creams f_present f_his f_hour) (fun _ => rfl) (fun r60 u60 H locs hw hP hD hS => ?_)
    obtain ⟨hn60, hw⟩ := hw
    try dsimp only at hw
    refine lv_if_eq (tgt := 70) hx hb dX1_whyNot_63 (by decide) (fun c63 => ?_) (fun c63 => ?_)
    · have hw := hw.1 c63
      refine lv_iconst (v := (2 : Int32)) hx hb dX1_whyNot_70 (by decide) ?_
      exact z_iret hx hb hr hlocks () hw hP hS dX1_whyNot_71
    have hw := hw.2 c63
    refine lv_iconst (v := (0 : Int32)) hx hb dX1_whyNot_66 (by decide) ?_
    refine lv_goto (tgt := 71) hx hb dX1_whyNot_67 (by decide) ?_
    exact z_iret hx hb hr hlocks () hw hP hS dX1_whyNot_71
  have hw := hw.2 c1_60
  have i1_60 : p1.toInt ≠ 60 := fun h => c1_60 (Int32.toInt_inj.mp (h.trans (by decide)))
  by_cases c1_62 : p1 = (62 : Int32)
  · have hw := hw.1 c1_62
    refine lv_lookup (off := 35) (tgt := 36) hx hb dX1_whyNot_1 (by decide) (by rw [c1_62]; rfl) (by decide) ?_
    refine lv_aload_n hx hb dX1_whyNot_36 rfl (lv_at hl 0 rfl) ?_
    refine va_get (D := D) (ci := 1) (v := .int f_his) (C := RX1) (T := TX1) (N := 8) hx hb hz hX_X1 hown hK.1 hP 0 rfl rfl 4 (by decide) (hz _ z1_40) (fun _ h9 => h9) rfl dX1_whyNot_37 ?_
    refine lv_iload_n hx hb dX1_whyNot_40 rfl (lv_at hl 2 rfl) ?_
    refine lv_iadd hx hb dX1_whyNot_41 ?_
    refine z_ri (z_runSN (As := [.int (f_his + p2)]) (rest := []) hF (c_X8_isPlace l D cI cC cZ (f_his + p2) _ _ hw) ⟨va_cnB 1 hz (z_gN z1_211) rfl rfl rfl (hK.2.1 _ (List.mem_of_getElem? (i := 22) rfl)) (hz _ z1_1) hd_X8_isPlace ⟨Nat.le_of_ble_eq_true rfl, Nat.le_of_ble_eq_true rfl⟩, (hz _ z1_210), trivial⟩ hK hP hD [] rfl rfl rfl hl.1 rfl (Nat.le_of_ble_eq_true rfl) dX1_whyNot_42 ⟨Nat.zero_le _, Nat.zero_le _⟩) hP hD hS hA [] rfl (fun _ => rfl) (fun _ => cw_X1_whyNot cI h h_places h_creams g_lying g_power g_spite f_places f_creams f_present f_his f_hour) (fun _ => rfl) (fun r42 u42 H locs hw hP hD hS => ?_)
    obtain ⟨hn42, hw⟩ := hw
    try dsimp only at hw
    refine lv_if_eq (tgt := 52) hx hb dX1_whyNot_45 (by decide) (fun c45 => ?_) (fun c45 => ?_)
    · have hw := hw.1 c45
      refine lv_iconst (v := (2 : Int32)) hx hb dX1_whyNot_52 (by decide) ?_
      exact z_iret hx hb hr hlocks () hw hP hS dX1_whyNot_53
    have hw := hw.2 c45
    refine lv_iconst (v := (0 : Int32)) hx hb dX1_whyNot_48 (by decide) ?_
    refine lv_goto (tgt := 53) hx hb dX1_whyNot_49 (by decide) ?_
    exact z_iret hx hb hr hlocks () hw hP hS dX1_whyNot_53
  have hw := hw.2 c1_62
  have i1_62 : p1.toInt ≠ 62 := fun h => c1_62 (Int32.toInt_inj.mp (h.trans (by decide)))
  refine lv_lookup (off := 86) (tgt := 87) hx hb dX1_whyNot_1 (by decide) (by simp only [Op.lookupswitch.offset] <;> omega) (by decide) ?_
  refine lv_aload_n hx hb dX1_whyNot_87 rfl (lv_at hl 0 rfl) ?_
  refine lv_iload_n hx hb dX1_whyNot_88 rfl (lv_at hl 2 rfl) ?_
  refine z_ri (z_runV (As := [.int p2]) (rest := []) hF (c_X1_has l D cI cC cZ h (.ref h_places) (.ref h_creams) g_lying (.int f_his) g_power g_spite (.int f_hour) f_present p2 _ _ hw) (cwV 1 hz (z_gV z2_90 z2_91 z2_92 z1_3 z2_93) rfl rfl rfl hd_X1_has ⟨Nat.le_of_ble_eq_true rfl, Nat.le_of_ble_eq_true rfl⟩) hK hP hD [0] rfl rfl 0 1 rfl rfl rfl rfl hl.1 rfl (Nat.le_of_ble_eq_true rfl) dX1_whyNot_89 ⟨Nat.zero_le _, Nat.zero_le _⟩) hP hD hS hA [0] rfl (fun _ => rfl) (fun _ => cw_X1_whyNot cI h h_places h_creams g_lying g_power g_spite f_places f_creams f_present f_his f_hour) (fun _ => rfl) (fun r89 u89 H locs hw hP hD hS => ?_)
  obtain ⟨hn89, hw⟩ := hw
  try dsimp only at hw
  refine lv_if_eq (tgt := 104) hx hb dX1_whyNot_92 (by decide) (fun c92 => ?_) (fun c92 => ?_)
  · have hw := hw.1 c92
    refine lv_iconst (v := (1 : Int32)) hx hb dX1_whyNot_104 (by decide) ?_
    exact z_iret hx hb hr hlocks () hw hP hS dX1_whyNot_105
  have hw := hw.2 c92
  refine lv_aload_n hx hb dX1_whyNot_95 rfl (lv_at hl 0 rfl) ?_
  refine lv_iload_n hx hb dX1_whyNot_96 rfl (lv_at hl 1 rfl) ?_
  refine lv_iload_n hx hb dX1_whyNot_97 rfl (lv_at hl 2 rfl) ?_
  refine z_ri (z_runV (As := [.int p1, .int p2]) (rest := []) hF (c_X1_whyNotTo l D cI cC cZ h h_places h_creams (.int f_present) g_lying g_power g_spite (.int f_hour) f_places f_creams f_his p1 p2 _ _ hw) (cwV 2 hz (z_gV z2_94 z2_96 zp_6 z1_3 z2_97) rfl rfl rfl hd_X1_whyNotTo ⟨Nat.le_of_ble_eq_true rfl, Nat.le_of_ble_eq_true rfl⟩) hK hP hD [0, 1, 2] rfl rfl 0 1 rfl rfl rfl rfl hl.1 rfl (Nat.le_of_ble_eq_true rfl) dX1_whyNot_98 ⟨Nat.zero_le _, Nat.zero_le _⟩) hP hD hS hA [0, 1, 2] rfl (fun _ => rfl) (fun _ => cw_X1_whyNot cI h h_places h_creams g_lying g_power g_spite f_places f_creams f_present f_his f_hour) (fun _ => rfl) (fun r98 u98 H locs hw hP hD hS => ?_)
  try dsimp only at hw
  refine lv_goto (tgt := 105) hx hb dX1_whyNot_101 (by decide) ?_
  exact z_iret hx hb hr hlocks () hw hP hS dX1_whyNot_105
abbrev cw_X1_offOnes (cI : ClassId) (h h_creams : Nat) (g_places g_lying g_his g_power g_spite g_hour : Value) (f_creams : Nat → Int32) (f_present : Int32) : va_W := [(h, .inr (1, [g_places, .ref h_creams, .int f_present, g_lying, g_his, g_power, g_spite, g_hour])), (h_creams, .inl (cI, 8, .inl f_creams))]
abbrev q_X1_offOnes (D : va_G) (cI : ClassId) (h h_creams : Nat) (g_places g_lying g_his g_power g_spite g_hour : Value) (post : Int32 → Prop) (f_creams : Nat → Int32) (f_present : Int32) (A : Nat → Prop) : Array Value → State → Outcome → State → Prop := va_Qi (S := Unit) (fun r _ => post r ) (fun _ t => va_P D vwCl (cw_X1_offOnes cI h h_creams g_places g_lying g_his g_power g_spite g_hour f_creams f_present) t.heap) A
abbrev v_X1_offOnes : List Cond := .code yX1_offOnes cX1_offOnes 3 (some .int) :: zB
theorem hd_X1_offOnes : yX1_offOnes.cls = RX1 ∧ yX1_offOnes.cls ≠ "java/lang/invoke/MethodHandle" ∧ yX1_offOnes.cls ≠ "java/lang/invoke/VarHandle" ∧ (parseMethodDescriptor yX1_offOnes.desc).map (fun d => d.parameters.length) = some 0 := by decide +kernel
set_option maxHeartbeats 4000000 in
set_option maxRecDepth 100000 in
theorem c_X1_offOnes (l : Launch) (D : va_G) (cI cC cZ : ClassId) (h h_creams : Nat) (g_places g_lying g_his g_power g_spite g_hour : Value) (f_creams : Nat → Int32) (f_present : Int32) (sz : Nat) (post : Int32 → Prop) (hw : w_X1_offOnes post f_creams f_present) : Met l yX1_offOnes v_X1_offOnes ({ frames := 2, cells := 0, slots := 0, locals := 41 } : Room) (va_Pc [.ref h] (zPre D (zT cI cC cZ) sz (cw_X1_offOnes cI h h_creams g_places g_lying g_his g_power g_spite g_hour f_creams f_present))) (q_X1_offOnes D cI h h_creams g_places g_lying g_his g_power g_spite g_hour post f_creams f_present (va_A (cw_X1_offOnes cI h h_creams g_places g_lying g_his g_power g_spite g_hour f_creams f_present) sz)) 0 0 (va_A (cw_X1_offOnes cI h h_creams g_places g_lying g_his g_power g_spite g_hour f_creams f_present) sz) := by
  refine Met.ofW (cc := cX1_offOnes) (maxL := 3) (ret := (some .int)) (by decide) rfl ?_
  intro p e s m args below meth c s₁ B hml hv
  obtain ⟨rfl, hsz, hP, hK, hD0⟩ := hv
  subst hsz
  have hx := B.exec
  have hb := B.bytes
  have hr := B.returns
  have hz : ∀ w ∈ zB, w.before _ s = true := fun w h => atoms_spec (ws := v_X1_offOnes) B.pre w (List.mem_cons_of_mem _ h)
  have hown : s.vm.findClass RX1 = some m.cls := findClass_of_methodNamed B.named
  have hlocks := B.notSynchronized
  have hF : CallFix p m c cX1_offOnes 3 s (([.ref h] : List Value).toArray) zB RX1 := ⟨hx, hb, hml, hown, hz⟩
  have hD := hD0.self (sz := s.heap.size)
  generalize hAe : va_A (cw_X1_offOnes cI h h_creams g_places g_lying g_his g_power g_spite g_hour f_creams f_present) s.heap.size = A at hD ⊢
  have hA : ∀ q : Nat, s.heap.size ≤ q → A q := fun q h => by rw [← hAe]; exact Or.inr h
  have hS : va_S A s.heap s.heap [] := va_S.rf
  have hP : va_P D vwCl (cw_X1_offOnes cI h h_creams g_places g_lying g_his g_power g_spite g_hour f_creams f_present) s.heap := hP
  have hl := lv_entry ([.ref h]) (n := 3) (Nat.le_of_ble_eq_true rfl)
  rw [lg_entry_eq]
  generalize (lg_sl ([.ref h]) ++ List.replicate (3 - (lg_sl ([.ref h])).length) Slot.unset).toArray = ls at hl ⊢
  have hl : lv_has ls 3 [(0, .ref h)] := hl
  have L4 : ∀ (n4 : Nat) (x1 : Int32) (x2 : Int32) (H : Heap) (locs : List Loc) (ls : Array Slot) (hw : w_X1_offOnes_B4 post f_creams f_present n4 x1 x2) (hP : va_P D vwCl (cw_X1_offOnes cI h h_creams g_places g_lying g_his g_power g_spite g_hour f_creams f_present) H) (hD : va_D A (cw_X1_offOnes cI h h_creams g_places g_lying g_his g_power g_spite g_hour f_creams f_present)) (hS : va_S A s.heap H locs) (hl : lv_has ls 3 [(0, .ref h), (1, .int x1), (2, .int x2)]), W p l e (headSpec v_X1_offOnes ({ frames := 2, cells := 0, slots := 0, locals := 41 } : Room)).room s m (([.ref h] : List Value).toArray) below meth c H locs 0 0 (MQ below (q_X1_offOnes D cI h h_creams g_places g_lying g_his g_power g_spite g_hour post f_creams f_present A) (([.ref h] : List Value).toArray) s 0 0 A) (F0 m 4 ls []) := by
    intro n4
    induction n4 with
    | zero => intro x1 x2 H locs ls hw; exact False.elim hw
    | succ n4 ih4 =>
      intro x1 x2 H locs ls hw hP hD hS hl
      unfold w_X1_offOnes_B4 at hw
      refine lv_iload_n hx hb dX1_offOnes_4 rfl (lv_at hl 2 rfl) ?_
      refine lv_bipush (v := (8 : Int32)) hx hb dX1_offOnes_5 (by decide) ?_
      refine lv_icmp_ge (tgt := 39) hx hb dX1_offOnes_7 (by decide) (fun c7 => ?_) (fun c7 => ?_)
      · have hw := hw.1 c7
        refine lv_iload_n hx hb dX1_offOnes_39 rfl (lv_at hl 1 rfl) ?_
        exact z_iret hx hb hr hlocks () hw hP hS dX1_offOnes_40
      have hw := hw.2 c7
      refine lv_aload_n hx hb dX1_offOnes_10 rfl (lv_at hl 0 rfl) ?_
      refine lv_iload_n hx hb dX1_offOnes_11 rfl (lv_at hl 2 rfl) ?_
      refine z_ri (z_runV (As := [.int x2]) (rest := []) hF (c_X1_has l D cI cC cZ h g_places (.ref h_creams) g_lying g_his g_power g_spite g_hour f_present x2 _ _ hw) (cwV 1 hz (z_gV z2_90 z2_91 z2_92 z1_3 z2_93) rfl rfl rfl hd_X1_has ⟨Nat.le_of_ble_eq_true rfl, Nat.le_of_ble_eq_true rfl⟩) hK hP hD [0] rfl rfl 0 1 rfl rfl rfl rfl hl.1 rfl (Nat.le_of_ble_eq_true rfl) dX1_offOnes_12 ⟨Nat.zero_le _, Nat.zero_le _⟩) hP hD hS hA [0] rfl (fun _ => rfl) (fun _ => cw_X1_offOnes cI h h_creams g_places g_lying g_his g_power g_spite g_hour f_creams f_present) (fun _ => rfl) (fun r12 u12 H locs hw hP hD hS => ?_)
      obtain ⟨hn12, hw⟩ := hw
      try dsimp only at hw
      refine lv_if_eq (tgt := 33) hx hb dX1_offOnes_15 (by decide) (fun c15 => ?_) (fun c15 => ?_)
      · have hw := hw.1 c15
        refine lv_iinc (k := 2) (v := (x2 + 1)) (lv' := [(2, .int (x2 + 1)), (0, .ref h), (1, .int x1)]) hx hb dX1_offOnes_33 hl rfl rfl (by decide) rfl (fun ls hl => ?_)
        refine lv_goto (tgt := 4) hx hb dX1_offOnes_36 (by decide) ?_
        exact ih4 x1 (x2 + 1) _ _ _ hw hP hD hS (lv_sub hl [1, 2, 0] rfl)
      have hw := hw.2 c15
      refine lv_aload_n hx hb dX1_offOnes_18 rfl (lv_at hl 0 rfl) ?_
      refine va_get (D := D) (ci := 1) (v := .ref h_creams) (C := RX1) (T := TX1) (N := 8) hx hb hz hX_X1 hown hK.1 hP 0 rfl rfl 1 (by decide) (hz _ z1_36) (fun _ h9 => h9) rfl dX1_offOnes_19 ?_
      refine lv_iload_n hx hb dX1_offOnes_22 rfl (lv_at hl 2 rfl) ?_
      obtain ⟨hi23, hw⟩ := hw
      refine va_iald hx hb hK.1 hP 1 0 rfl rfl hi23 dX1_offOnes_23 ?_
      refine lv_if_ne (tgt := 33) hx hb dX1_offOnes_24 (by decide) (fun c24 => ?_) (fun c24 => ?_)
      · have hw := hw.2 c24
        refine lv_iinc (k := 2) (v := (x2 + 1)) (lv' := [(2, .int (x2 + 1)), (0, .ref h), (1, .int x1)]) hx hb dX1_offOnes_33 hl rfl rfl (by decide) rfl (fun ls hl => ?_)
        refine lv_goto (tgt := 4) hx hb dX1_offOnes_36 (by decide) ?_
        exact ih4 x1 (x2 + 1) _ _ _ hw hP hD hS (lv_sub hl [1, 2, 0] rfl)
      have hw := hw.1 c24
      refine lv_iload_n hx hb dX1_offOnes_27 rfl (lv_at hl 1 rfl) ?_
      refine lv_iconst (v := (1 : Int32)) hx hb dX1_offOnes_28 (by decide) ?_
      refine lv_iload_n hx hb dX1_offOnes_29 rfl (lv_at hl 2 rfl) ?_
      refine lv_ishl hx hb dX1_offOnes_30 ?_
      refine lv_ior hx hb dX1_offOnes_31 ?_
      refine lv_topi (fun y32 ey32 => ?_)
      have hw := hw y32 ey32
      refine lv_istore_n (lv' := [(1, .int y32), (0, .ref h), (2, .int x2)]) hx hb dX1_offOnes_32 rfl hl (by decide) rfl (fun ls hl => ?_)
      refine lv_iinc (k := 2) (v := (x2 + 1)) (lv' := [(2, .int (x2 + 1)), (1, .int y32), (0, .ref h)]) hx hb dX1_offOnes_33 hl rfl rfl (by decide) rfl (fun ls hl => ?_)
      refine lv_goto (tgt := 4) hx hb dX1_offOnes_36 (by decide) ?_
      exact ih4 y32 (x2 + 1) _ _ _ hw hP hD hS (lv_sub hl [2, 1, 0] rfl)
  unfold w_X1_offOnes at hw
  refine lv_iconst (v := (0 : Int32)) hx hb dX1_offOnes_0 (by decide) ?_
  refine lv_istore_n (lv' := [(1, .int (0 : Int32)), (0, .ref h)]) hx hb dX1_offOnes_1 rfl hl (by decide) rfl (fun ls hl => ?_)
  refine lv_iconst (v := (0 : Int32)) hx hb dX1_offOnes_2 (by decide) ?_
  refine lv_istore_n (lv' := [(2, .int (0 : Int32)), (1, .int (0 : Int32)), (0, .ref h)]) hx hb dX1_offOnes_3 rfl hl (by decide) rfl (fun ls hl => ?_)
  obtain ⟨n4, hw⟩ := hw
  exact L4 n4 (0 : Int32) (0 : Int32) _ _ _ hw hP hD hS (lv_sub hl [2, 1, 0] rfl)
abbrev cw_X1_isLiar (h : Nat) (g_places g_creams g_present g_his g_power g_spite g_hour : Value) (f_lying : Int32) : va_W := [(h, .inr (1, [g_places, g_creams, g_present, .int f_lying, g_his, g_power, g_spite, g_hour]))]
abbrev q_X1_isLiar (D : va_G) (h : Nat) (g_places g_creams g_present g_his g_power g_spite g_hour : Value) (post : Int32 → Prop) (f_lying : Int32) (A : Nat → Prop) : Array Value → State → Outcome → State → Prop := va_Qi (S := Unit) (fun r _ => narrow .boolean (.int r) = .int r ∧ post r ) (fun _ t => va_P D vwCl (cw_X1_isLiar h g_places g_creams g_present g_his g_power g_spite g_hour f_lying) t.heap) A
abbrev v_X1_isLiar : List Cond := .code yX1_isLiar cX1_isLiar 2 (some .boolean) :: zB
theorem hd_X1_isLiar : yX1_isLiar.cls = RX1 ∧ yX1_isLiar.cls ≠ "java/lang/invoke/MethodHandle" ∧ yX1_isLiar.cls ≠ "java/lang/invoke/VarHandle" ∧ (parseMethodDescriptor yX1_isLiar.desc).map (fun d => d.parameters.length) = some 1 := by decide +kernel
set_option maxHeartbeats 4000000 in
set_option maxRecDepth 100000 in
theorem c_X1_isLiar (l : Launch) (D : va_G) (cI cC cZ : ClassId) (h : Nat) (g_places g_creams g_present g_his g_power g_spite g_hour : Value) (f_lying : Int32) (p1 : Int32) (sz : Nat) (post : Int32 → Prop) (hw : w_X1_isLiar post f_lying p1) : Met l yX1_isLiar v_X1_isLiar ({ frames := 1, cells := 0, slots := 0, locals := 20 } : Room) (va_Pc [.ref h, .int p1] (zPre D (zT cI cC cZ) sz (cw_X1_isLiar h g_places g_creams g_present g_his g_power g_spite g_hour f_lying))) (q_X1_isLiar D h g_places g_creams g_present g_his g_power g_spite g_hour post f_lying (va_A (cw_X1_isLiar h g_places g_creams g_present g_his g_power g_spite g_hour f_lying) sz)) 0 0 (va_A (cw_X1_isLiar h g_places g_creams g_present g_his g_power g_spite g_hour f_lying) sz) := by
  refine Met.ofW (cc := cX1_isLiar) (maxL := 2) (ret := (some .boolean)) (by decide) rfl ?_
  intro p e s m args below meth c s₁ B hml hv
  obtain ⟨rfl, hsz, hP, hK, hD0⟩ := hv
  subst hsz
  have hx := B.exec
  have hb := B.bytes
  have hr := B.returns
  have hz : ∀ w ∈ zB, w.before _ s = true := fun w h => atoms_spec (ws := v_X1_isLiar) B.pre w (List.mem_cons_of_mem _ h)
  have hown : s.vm.findClass RX1 = some m.cls := findClass_of_methodNamed B.named
  have hlocks := B.notSynchronized
  have hF : CallFix p m c cX1_isLiar 2 s (([.ref h, .int p1] : List Value).toArray) zB RX1 := ⟨hx, hb, hml, hown, hz⟩
  have hD := hD0.self (sz := s.heap.size)
  generalize hAe : va_A (cw_X1_isLiar h g_places g_creams g_present g_his g_power g_spite g_hour f_lying) s.heap.size = A at hD ⊢
  have hA : ∀ q : Nat, s.heap.size ≤ q → A q := fun q h => by rw [← hAe]; exact Or.inr h
  have hS : va_S A s.heap s.heap [] := va_S.rf
  have hP : va_P D vwCl (cw_X1_isLiar h g_places g_creams g_present g_his g_power g_spite g_hour f_lying) s.heap := hP
  have hl := lv_entry ([.ref h, .int p1]) (n := 2) (Nat.le_of_ble_eq_true rfl)
  rw [lg_entry_eq]
  generalize (lg_sl ([.ref h, .int p1]) ++ List.replicate (2 - (lg_sl ([.ref h, .int p1])).length) Slot.unset).toArray = ls at hl ⊢
  have hl : lv_has ls 2 [(0, .ref h), (1, .int p1)] := hl
  have J23 : ∀ (H : Heap) (locs : List Loc) (ls : Array Slot) (hw : w_X1_isLiar_B23 post f_lying p1) (hP : va_P D vwCl (cw_X1_isLiar h g_places g_creams g_present g_his g_power g_spite g_hour f_lying) H) (hD : va_D A (cw_X1_isLiar h g_places g_creams g_present g_his g_power g_spite g_hour f_lying)) (hS : va_S A s.heap H locs) (hl : lv_has ls 2 []), W p l e (headSpec v_X1_isLiar ({ frames := 1, cells := 0, slots := 0, locals := 20 } : Room)).room s m (([.ref h, .int p1] : List Value).toArray) below meth c H locs 0 0 (MQ below (q_X1_isLiar D h g_places g_creams g_present g_his g_power g_spite g_hour post f_lying A) (([.ref h, .int p1] : List Value).toArray) s 0 0 A) (F0 m 23 ls []) := by
    intro H locs ls hw hP hD hS hl
    unfold w_X1_isLiar_B23 at hw
    refine lv_iconst (v := (0 : Int32)) hx hb dX1_isLiar_23 (by decide) ?_
    exact z_zret hx hb hr hlocks rfl () hw hP hS dX1_isLiar_24
  unfold w_X1_isLiar at hw
  refine lv_iload_n hx hb dX1_isLiar_0 rfl (lv_at hl 1 rfl) ?_
  refine z_ri (z_runSN (As := [.int p1]) (rest := []) hF (c_X8_isWitness l D cI cC cZ p1 _ _ hw) ⟨va_cnB 1 hz (z_gN z1_208) rfl rfl rfl (hK.2.1 _ (List.mem_of_getElem? (i := 18) rfl)) (hz _ z1_1) hd_X8_isWitness ⟨Nat.le_of_ble_eq_true rfl, Nat.le_of_ble_eq_true rfl⟩, (hz _ z1_207), trivial⟩ hK hP hD [] rfl rfl rfl hl.1 rfl (Nat.le_of_ble_eq_true rfl) dX1_isLiar_1 ⟨Nat.zero_le _, Nat.zero_le _⟩) hP hD hS hA [] rfl (fun _ => rfl) (fun _ => cw_X1_isLiar h g_places g_creams g_present g_his g_power g_spite g_hour f_lying) (fun _ => rfl) (fun r1 u1 H locs hw hP hD hS => ?_)
  obtain ⟨hn1, hw⟩ := hw
  try dsimp only at hw
  refine lv_if_eq (tgt := 23) hx hb dX1_isLiar_4 (by decide) (fun c4 => ?_) (fun c4 => ?_)
  · have hw := hw.1 c4
    exact J23 _ _ _ hw hP hD hS (lv_sub hl [] rfl)
  have hw := hw.2 c4
  refine lv_aload_n hx hb dX1_isLiar_7 rfl (lv_at hl 0 rfl) ?_
  refine va_get (D := D) (ci := 1) (v := .int f_lying) (C := RX1) (T := TX1) (N := 8) hx hb hz hX_X1 hown hK.1 hP 0 rfl rfl 3 (by decide) (hz _ z1_39) (fun _ h9 => h9) rfl dX1_isLiar_8 ?_
  refine lv_iload_n hx hb dX1_isLiar_11 rfl (lv_at hl 1 rfl) ?_
  refine lv_ishr hx hb dX1_isLiar_12 ?_
  refine lv_iconst (v := (1 : Int32)) hx hb dX1_isLiar_13 (by decide) ?_
  refine lv_iand hx hb dX1_isLiar_14 ?_
  refine lv_iconst (v := (1 : Int32)) hx hb dX1_isLiar_15 (by decide) ?_
  refine lv_icmp_ne (tgt := 23) hx hb dX1_isLiar_16 (by decide) (fun c16 => ?_) (fun c16 => ?_)
  · have hw := hw.2 c16
    exact J23 _ _ _ hw hP hD hS (lv_sub hl [] rfl)
  have hw := hw.1 c16
  refine lv_iconst (v := (1 : Int32)) hx hb dX1_isLiar_19 (by decide) ?_
  refine lv_goto (tgt := 24) hx hb dX1_isLiar_20 (by decide) ?_
  exact z_zret hx hb hr hlocks rfl () hw hP hS dX1_isLiar_24
abbrev cw_X8_lossAt : va_W := []
abbrev q_X8_lossAt (D : va_G) (post : Int32 → Prop) (A : Nat → Prop) : Array Value → State → Outcome → State → Prop := va_Qi (S := Unit) (fun r _ => post r ) (fun _ t => va_P D vwCl (cw_X8_lossAt) t.heap) A
abbrev v_X8_lossAt : List Cond := .code yX8_lossAt cX8_lossAt 4 (some .int) :: zB
theorem hd_X8_lossAt : yX8_lossAt.cls ≠ "java/lang/invoke/MethodHandle" ∧ yX8_lossAt.cls ≠ "java/lang/invoke/VarHandle" ∧ (parseMethodDescriptor yX8_lossAt.desc).map (fun d => d.parameters.length) = some 4 := by decide +kernel
set_option maxHeartbeats 4000000 in
set_option maxRecDepth 100000 in
theorem c_X8_lossAt (l : Launch) (D : va_G) (cI cC cZ : ClassId) (p0 : Int32) (p1 : Int32) (p2 : Int32) (p3 : Int32) (sz : Nat) (post : Int32 → Prop) (hw : w_X8_lossAt post p0 p1 p2 p3) : Met l yX8_lossAt v_X8_lossAt ({ frames := 0, cells := 0, slots := 0, locals := 0 } : Room) (va_Pc [.int p0, .int p1, .int p2, .int p3] (zPre D (zT cI cC cZ) sz (cw_X8_lossAt))) (q_X8_lossAt D post (va_A (cw_X8_lossAt) sz)) 0 0 (va_A (cw_X8_lossAt) sz) := by
  refine Met.ofW (cc := cX8_lossAt) (maxL := 4) (ret := (some .int)) (by decide) rfl ?_
  intro p e s m args below meth c s₁ B hml hv
  obtain ⟨rfl, hsz, hP, hK, hD0⟩ := hv
  subst hsz
  have hx := B.exec
  have hb := B.bytes
  have hr := B.returns
  have hz : ∀ w ∈ zB, w.before _ s = true := fun w h => atoms_spec (ws := v_X8_lossAt) B.pre w (List.mem_cons_of_mem _ h)
  have hown : s.vm.findClass RX8 = some m.cls := findClass_of_methodNamed B.named
  have hlocks := B.notSynchronized
  have hF : CallFix p m c cX8_lossAt 4 s (([.int p0, .int p1, .int p2, .int p3] : List Value).toArray) zB RX8 := ⟨hx, hb, hml, hown, hz⟩
  have hD := hD0.self (sz := s.heap.size)
  generalize hAe : va_A (cw_X8_lossAt) s.heap.size = A at hD ⊢
  have hA : ∀ q : Nat, s.heap.size ≤ q → A q := fun q h => by rw [← hAe]; exact Or.inr h
  have hS : va_S A s.heap s.heap [] := va_S.rf
  have hP : va_P D vwCl (cw_X8_lossAt) s.heap := hP
  have hl := lv_entry ([.int p0, .int p1, .int p2, .int p3]) (n := 4) (Nat.le_of_ble_eq_true rfl)
  rw [lg_entry_eq]
  generalize (lg_sl ([.int p0, .int p1, .int p2, .int p3]) ++ List.replicate (4 - (lg_sl ([.int p0, .int p1, .int p2, .int p3])).length) Slot.unset).toArray = ls at hl ⊢
  have hl : lv_has ls 4 [(0, .int p0), (1, .int p1), (2, .int p2), (3, .int p3)] := hl
  unfold w_X8_lossAt at hw
  refine lv_iload_n hx hb dX8_lossAt_0 rfl (lv_at hl 0 rfl) ?_
  refine lv_iconst (v := (3 : Int32)) hx hb dX8_lossAt_1 (by decide) ?_
  refine lv_icmp_le (tgt := 7) hx hb dX8_lossAt_2 (by decide) (fun c2 => ?_) (fun c2 => ?_)
  · have hw := hw.1 c2
    refine lv_iload_n hx hb dX8_lossAt_7 rfl (lv_at hl 2 rfl) ?_
    refine lv_iconst (v := (4 : Int32)) hx hb dX8_lossAt_8 (by decide) ?_
    refine lv_iload_n hx hb dX8_lossAt_9 rfl (lv_at hl 0 rfl) ?_
    refine lv_isub hx hb dX8_lossAt_10 ?_
    refine lv_imul hx hb dX8_lossAt_11 ?_
    refine lv_iload_n hx hb dX8_lossAt_12 rfl (lv_at hl 1 rfl) ?_
    refine lv_if_eq (tgt := 20) hx hb dX8_lossAt_13 (by decide) (fun c13 => ?_) (fun c13 => ?_)
    · have hw := hw.1 c13
      refine lv_iconst (v := (0 : Int32)) hx hb dX8_lossAt_20 (by decide) ?_
      refine lv_iadd hx hb dX8_lossAt_21 ?_
      exact z_iret hx hb hr hlocks () hw hP hS dX8_lossAt_22
    have hw := hw.2 c13
    refine lv_iload_n hx hb dX8_lossAt_16 rfl (lv_at hl 3 rfl) ?_
    refine lv_goto (tgt := 21) hx hb dX8_lossAt_17 (by decide) ?_
    refine lv_iadd hx hb dX8_lossAt_21 ?_
    exact z_iret hx hb hr hlocks () hw hP hS dX8_lossAt_22
  have hw := hw.2 c2
  refine lv_iconst (v := (0 : Int32)) hx hb dX8_lossAt_5 (by decide) ?_
  exact z_iret hx hb hr hlocks () hw hP hS dX8_lossAt_6
abbrev cw_X1_lossInAnHour (cI : ClassId) (h h_places : Nat) (g_creams g_present g_hour : Value) (f_places : Nat → Int32) (f_lying : Int32) (f_his : Int32) (f_power : Int32) (f_spite : Int32) : va_W := [(h, .inr (1, [.ref h_places, g_creams, g_present, .int f_lying, .int f_his, .int f_power, .int f_spite, g_hour])), (h_places, .inl (cI, 8, .inl f_places))]
abbrev q_X1_lossInAnHour (D : va_G) (cI : ClassId) (h h_places : Nat) (g_creams g_present g_hour : Value) (post : Int32 → Prop) (f_places : Nat → Int32) (f_lying : Int32) (f_his : Int32) (f_power : Int32) (f_spite : Int32) (A : Nat → Prop) : Array Value → State → Outcome → State → Prop := va_Qi (S := Unit) (fun r _ => post r ) (fun _ t => va_P D vwCl (cw_X1_lossInAnHour cI h h_places g_creams g_present g_hour f_places f_lying f_his f_power f_spite) t.heap) A
abbrev v_X1_lossInAnHour : List Cond := .code yX1_lossInAnHour cX1_lossInAnHour 2 (some .int) :: zB
theorem hd_X1_lossInAnHour : yX1_lossInAnHour.cls = RX1 ∧ yX1_lossInAnHour.cls ≠ "java/lang/invoke/MethodHandle" ∧ yX1_lossInAnHour.cls ≠ "java/lang/invoke/VarHandle" ∧ (parseMethodDescriptor yX1_lossInAnHour.desc).map (fun d => d.parameters.length) = some 1 := by decide +kernel
set_option maxHeartbeats 4000000 in
set_option maxRecDepth 100000 in
theorem c_X1_lossInAnHour (l : Launch) (D : va_G) (cI cC cZ : ClassId) (h h_places : Nat) (g_creams g_present g_hour : Value) (f_places : Nat → Int32) (f_lying : Int32) (f_his : Int32) (f_power : Int32) (f_spite : Int32) (p1 : Int32) (sz : Nat) (post : Int32 → Prop) (hw : w_X1_lossInAnHour post f_places f_lying f_his f_power f_spite p1) : Met l yX1_lossInAnHour v_X1_lossInAnHour ({ frames := 2, cells := 0, slots := 0, locals := 51 } : Room) (va_Pc [.ref h, .int p1] (zPre D (zT cI cC cZ) sz (cw_X1_lossInAnHour cI h h_places g_creams g_present g_hour f_places f_lying f_his f_power f_spite))) (q_X1_lossInAnHour D cI h h_places g_creams g_present g_hour post f_places f_lying f_his f_power f_spite (va_A (cw_X1_lossInAnHour cI h h_places g_creams g_present g_hour f_places f_lying f_his f_power f_spite) sz)) 0 0 (va_A (cw_X1_lossInAnHour cI h h_places g_creams g_present g_hour f_places f_lying f_his f_power f_spite) sz) := by
  refine Met.ofW (cc := cX1_lossInAnHour) (maxL := 2) (ret := (some .int)) (by decide) rfl ?_
  intro p e s m args below meth c s₁ B hml hv
  obtain ⟨rfl, hsz, hP, hK, hD0⟩ := hv
  subst hsz
  have hx := B.exec
  have hb := B.bytes
  have hr := B.returns
  have hz : ∀ w ∈ zB, w.before _ s = true := fun w h => atoms_spec (ws := v_X1_lossInAnHour) B.pre w (List.mem_cons_of_mem _ h)
  have hown : s.vm.findClass RX1 = some m.cls := findClass_of_methodNamed B.named
  have hlocks := B.notSynchronized
  have hF : CallFix p m c cX1_lossInAnHour 2 s (([.ref h, .int p1] : List Value).toArray) zB RX1 := ⟨hx, hb, hml, hown, hz⟩
  have hD := hD0.self (sz := s.heap.size)
  generalize hAe : va_A (cw_X1_lossInAnHour cI h h_places g_creams g_present g_hour f_places f_lying f_his f_power f_spite) s.heap.size = A at hD ⊢
  have hA : ∀ q : Nat, s.heap.size ≤ q → A q := fun q h => by rw [← hAe]; exact Or.inr h
  have hS : va_S A s.heap s.heap [] := va_S.rf
  have hP : va_P D vwCl (cw_X1_lossInAnHour cI h h_places g_creams g_present g_hour f_places f_lying f_his f_power f_spite) s.heap := hP
  have hl := lv_entry ([.ref h, .int p1]) (n := 2) (Nat.le_of_ble_eq_true rfl)
  rw [lg_entry_eq]
  generalize (lg_sl ([.ref h, .int p1]) ++ List.replicate (2 - (lg_sl ([.ref h, .int p1])).length) Slot.unset).toArray = ls at hl ⊢
  have hl : lv_has ls 2 [(0, .ref h), (1, .int p1)] := hl
  unfold w_X1_lossInAnHour at hw
  refine lv_aload_n hx hb dX1_lossInAnHour_0 rfl (lv_at hl 0 rfl) ?_
  refine lv_iload_n hx hb dX1_lossInAnHour_1 rfl (lv_at hl 1 rfl) ?_
  refine z_ri (z_runV (As := [.int p1]) (rest := []) hF (c_X1_placesOff l D cI cC cZ h h_places g_creams g_present (.int f_lying) (.int f_power) (.int f_spite) g_hour f_places f_his p1 _ _ hw) (cwV 1 hz (z_gV z2_102 z2_104 zp_7 z1_3 z2_105) rfl rfl rfl hd_X1_placesOff ⟨Nat.le_of_ble_eq_true rfl, Nat.le_of_ble_eq_true rfl⟩) hK hP hD [0, 1] rfl rfl 0 1 rfl rfl rfl rfl hl.1 rfl (Nat.le_of_ble_eq_true rfl) dX1_lossInAnHour_2 ⟨Nat.zero_le _, Nat.zero_le _⟩) hP hD hS hA [0, 1] rfl (fun _ => rfl) (fun _ => cw_X1_lossInAnHour cI h h_places g_creams g_present g_hour f_places f_lying f_his f_power f_spite) (fun _ => rfl) (fun r2 u2 H locs hw hP hD hS => ?_)
  try dsimp only at hw
  refine lv_aload_n hx hb dX1_lossInAnHour_5 rfl (lv_at hl 0 rfl) ?_
  refine lv_iload_n hx hb dX1_lossInAnHour_6 rfl (lv_at hl 1 rfl) ?_
  refine z_ri (z_runV (As := [.int p1]) (rest := [.int r2]) hF (c_X1_isLiar l D cI cC cZ h (.ref h_places) g_creams g_present (.int f_his) (.int f_power) (.int f_spite) g_hour f_lying p1 _ _ hw) (cwV 1 hz (z_gV z2_125 z2_126 z2_127 z1_3 z2_128) rfl rfl rfl hd_X1_isLiar ⟨Nat.le_of_ble_eq_true rfl, Nat.le_of_ble_eq_true rfl⟩) hK hP hD [0] rfl rfl 0 1 rfl rfl rfl rfl hl.1 rfl (Nat.le_of_ble_eq_true rfl) dX1_lossInAnHour_7 ⟨Nat.zero_le _, Nat.zero_le _⟩) hP hD hS hA [0] rfl (fun _ => rfl) (fun _ => cw_X1_lossInAnHour cI h h_places g_creams g_present g_hour f_places f_lying f_his f_power f_spite) (fun _ => rfl) (fun r7 u7 H locs hw hP hD hS => ?_)
  obtain ⟨hn7, hw⟩ := hw
  try dsimp only at hw
  refine lv_aload_n hx hb dX1_lossInAnHour_10 rfl (lv_at hl 0 rfl) ?_
  refine va_get (D := D) (ci := 1) (v := .int f_power) (C := RX1) (T := TX1) (N := 8) hx hb hz hX_X1 hown hK.1 hP 0 rfl rfl 5 (by decide) (hz _ z1_42) (fun _ h9 => h9) rfl dX1_lossInAnHour_11 ?_
  refine lv_aload_n hx hb dX1_lossInAnHour_14 rfl (lv_at hl 0 rfl) ?_
  refine va_get (D := D) (ci := 1) (v := .int f_spite) (C := RX1) (T := TX1) (N := 8) hx hb hz hX_X1 hown hK.1 hP 0 rfl rfl 6 (by decide) (hz _ z1_44) (fun _ h9 => h9) rfl dX1_lossInAnHour_15 ?_
  refine z_ri (z_runSN (As := [.int r2, .int r7, .int f_power, .int f_spite]) (rest := []) hF (c_X8_lossAt l D cI cC cZ r2 r7 f_power f_spite _ _ hw) ⟨va_cnB 4 hz (z_gN z2_131) rfl rfl rfl (hK.2.1 _ (List.mem_of_getElem? (i := 23) rfl)) (hz _ z1_1) hd_X8_lossAt ⟨Nat.le_of_ble_eq_true rfl, Nat.le_of_ble_eq_true rfl⟩, (hz _ z2_130), trivial⟩ hK hP hD [] rfl rfl rfl hl.1 rfl (Nat.le_of_ble_eq_true rfl) dX1_lossInAnHour_18 ⟨Nat.zero_le _, Nat.zero_le _⟩) hP hD hS hA [] rfl (fun _ => rfl) (fun _ => cw_X1_lossInAnHour cI h h_places g_creams g_present g_hour f_places f_lying f_his f_power f_spite) (fun _ => rfl) (fun r18 u18 H locs hw hP hD hS => ?_)
  try dsimp only at hw
  exact z_iret hx hb hr hlocks () hw hP hS dX1_lossInAnHour_21
abbrev cw_X1_spoil (cI : ClassId) (h h_creams : Nat) (g_places g_present g_lying g_his g_power g_spite g_hour : Value) (f_creams : Nat → Int32) : va_W := [(h, .inr (1, [g_places, .ref h_creams, g_present, g_lying, g_his, g_power, g_spite, g_hour])), (h_creams, .inl (cI, 8, .inl f_creams))]
abbrev q_X1_spoil (D : va_G) (cI : ClassId) (h h_creams : Nat) (g_places g_present g_lying g_his g_power g_spite g_hour : Value) (post : (Nat → Int32) → Prop) (A : Nat → Prop) : Array Value → State → Outcome → State → Prop := va_Qv (S := (Nat → Int32)) (fun u => post u) (fun u t => va_P D vwCl (cw_X1_spoil cI h h_creams g_places g_present g_lying g_his g_power g_spite g_hour u) t.heap) A
abbrev v_X1_spoil : List Cond := .code yX1_spoil cX1_spoil 3 none :: zB
theorem hd_X1_spoil : yX1_spoil.cls = RX1 ∧ yX1_spoil.cls ≠ "java/lang/invoke/MethodHandle" ∧ yX1_spoil.cls ≠ "java/lang/invoke/VarHandle" ∧ (parseMethodDescriptor yX1_spoil.desc).map (fun d => d.parameters.length) = some 2 := by decide +kernel
set_option maxHeartbeats 4000000 in
set_option maxRecDepth 100000 in
theorem c_X1_spoil (l : Launch) (D : va_G) (cI cC cZ : ClassId) (h h_creams : Nat) (g_places g_present g_lying g_his g_power g_spite g_hour : Value) (f_creams : Nat → Int32) (p1 : Int32) (p2 : Int32) (sz : Nat) (post : (Nat → Int32) → Prop) (hw : w_X1_spoil post f_creams p1 p2) : Met l yX1_spoil v_X1_spoil ({ frames := 1, cells := 0, slots := 0, locals := 30 } : Room) (va_Pc [.ref h, .int p1, .int p2] (zPre D (zT cI cC cZ) sz (cw_X1_spoil cI h h_creams g_places g_present g_lying g_his g_power g_spite g_hour f_creams))) (q_X1_spoil D cI h h_creams g_places g_present g_lying g_his g_power g_spite g_hour post (va_A (cw_X1_spoil cI h h_creams g_places g_present g_lying g_his g_power g_spite g_hour f_creams) sz)) 0 0 (va_A (cw_X1_spoil cI h h_creams g_places g_present g_lying g_his g_power g_spite g_hour f_creams) sz) := by
  refine Met.ofW (cc := cX1_spoil) (maxL := 3) (ret := none) (by decide) rfl ?_
  intro p e s m args below meth c s₁ B hml hv
  obtain ⟨rfl, hsz, hP, hK, hD0⟩ := hv
  subst hsz
  have hx := B.exec
  have hb := B.bytes
  have hr := B.returns
  have hz : ∀ w ∈ zB, w.before _ s = true := fun w h => atoms_spec (ws := v_X1_spoil) B.pre w (List.mem_cons_of_mem _ h)
  have hown : s.vm.findClass RX1 = some m.cls := findClass_of_methodNamed B.named
  have hlocks := B.notSynchronized
  have hF : CallFix p m c cX1_spoil 3 s (([.ref h, .int p1, .int p2] : List Value).toArray) zB RX1 := ⟨hx, hb, hml, hown, hz⟩
  have hD := hD0.self (sz := s.heap.size)
  generalize hAe : va_A (cw_X1_spoil cI h h_creams g_places g_present g_lying g_his g_power g_spite g_hour f_creams) s.heap.size = A at hD ⊢
  have hA : ∀ q : Nat, s.heap.size ≤ q → A q := fun q h => by rw [← hAe]; exact Or.inr h
  have hS : va_S A s.heap s.heap [] := va_S.rf
  have hP : va_P D vwCl (cw_X1_spoil cI h h_creams g_places g_present g_lying g_his g_power g_spite g_hour f_creams) s.heap := hP
  have hl := lv_entry ([.ref h, .int p1, .int p2]) (n := 3) (Nat.le_of_ble_eq_true rfl)
  rw [lg_entry_eq]
  generalize (lg_sl ([.ref h, .int p1, .int p2]) ++ List.replicate (3 - (lg_sl ([.ref h, .int p1, .int p2])).length) Slot.unset).toArray = ls at hl ⊢
  have hl : lv_has ls 3 [(0, .ref h), (1, .int p1), (2, .int p2)] := hl
  unfold w_X1_spoil at hw
  refine lv_iload_n hx hb dX1_spoil_0 rfl (lv_at hl 1 rfl) ?_
  refine z_ri (z_runSN (As := [.int p1]) (rest := []) hF (c_X8_isWitness l D cI cC cZ p1 _ _ hw) ⟨va_cnB 1 hz (z_gN z1_208) rfl rfl rfl (hK.2.1 _ (List.mem_of_getElem? (i := 18) rfl)) (hz _ z1_1) hd_X8_isWitness ⟨Nat.le_of_ble_eq_true rfl, Nat.le_of_ble_eq_true rfl⟩, (hz _ z1_207), trivial⟩ hK hP hD [] rfl rfl rfl hl.1 rfl (Nat.le_of_ble_eq_true rfl) dX1_spoil_1 ⟨Nat.zero_le _, Nat.zero_le _⟩) hP hD hS hA [] rfl (fun _ => rfl) (fun _ => cw_X1_spoil cI h h_creams g_places g_present g_lying g_his g_power g_spite g_hour f_creams) (fun _ => rfl) (fun r1 u1 H locs hw hP hD hS => ?_)
  obtain ⟨hn1, hw⟩ := hw
  try dsimp only at hw
  refine lv_if_eq (tgt := 25) hx hb dX1_spoil_4 (by decide) (fun c4 => ?_) (fun c4 => ?_)
  · have hw := hw.1 c4
    exact z_vret hx hb hr hlocks f_creams hw hP hS dX1_spoil_25
  have hw := hw.2 c4
  refine lv_aload_n hx hb dX1_spoil_7 rfl (lv_at hl 0 rfl) ?_
  refine va_get (D := D) (ci := 1) (v := .ref h_creams) (C := RX1) (T := TX1) (N := 8) hx hb hz hX_X1 hown hK.1 hP 0 rfl rfl 1 (by decide) (hz _ z1_36) (fun _ h9 => h9) rfl dX1_spoil_8 ?_
  refine lv_iload_n hx hb dX1_spoil_11 rfl (lv_at hl 1 rfl) ?_
  refine lv_iconst (v := (0 : Int32)) hx hb dX1_spoil_12 (by decide) ?_
  refine lv_aload_n hx hb dX1_spoil_13 rfl (lv_at hl 0 rfl) ?_
  refine va_get (D := D) (ci := 1) (v := .ref h_creams) (C := RX1) (T := TX1) (N := 8) hx hb hz hX_X1 hown hK.1 hP 0 rfl rfl 1 (by decide) (hz _ z1_36) (fun _ h9 => h9) rfl dX1_spoil_14 ?_
  refine lv_iload_n hx hb dX1_spoil_17 rfl (lv_at hl 1 rfl) ?_
  obtain ⟨hi18, hw⟩ := hw
  refine va_iald hx hb hK.1 hP 1 0 rfl rfl hi18 dX1_spoil_18 ?_
  refine lv_iload_n hx hb dX1_spoil_19 rfl (lv_at hl 2 rfl) ?_
  refine lv_isub hx hb dX1_spoil_20 ?_
  refine va_mmax hx hb (hml.trans hl.1.symm) hown (hz _ z2_136) (hz _ z2_137) (hz _ z1_13) (hz _ z2_138) (Nat.le_of_ble_eq_true rfl) (Nat.le_of_ble_eq_true rfl) (Nat.zero_le _) (Nat.zero_le _) dX1_spoil_21 ?_
  obtain ⟨hi24, hw⟩ := hw
  refine va_iast hx hb hK.1 hP hD hS 1 0 rfl rfl hi24 dX1_spoil_24 (fun H locs hP hD hS => ?_)
  have hP : va_P D vwCl (cw_X1_spoil cI h h_creams g_places g_present g_lying g_his g_power g_spite g_hour (upd f_creams p1.toNatClampNeg (if (0 : Int32) < ((f_creams p1.toNatClampNeg) - p2) then ((f_creams p1.toNatClampNeg) - p2) else (0 : Int32)))) H := hP
  have hD : va_D A (cw_X1_spoil cI h h_creams g_places g_present g_lying g_his g_power g_spite g_hour (upd f_creams p1.toNatClampNeg (if (0 : Int32) < ((f_creams p1.toNatClampNeg) - p2) then ((f_creams p1.toNatClampNeg) - p2) else (0 : Int32)))) := hD
  exact z_vret hx hb hr hlocks (upd f_creams p1.toNatClampNeg (if (0 : Int32) < ((f_creams p1.toNatClampNeg) - p2) then ((f_creams p1.toNatClampNeg) - p2) else (0 : Int32))) hw hP hS dX1_spoil_25
abbrev cw_X1_passHour (cI : ClassId) (h h_places h_creams : Nat) (g_present : Value) (f_places : Nat → Int32) (f_creams : Nat → Int32) (f_lying : Int32) (f_his : Int32) (f_power : Int32) (f_spite : Int32) (f_hour : Int32) : va_W := [(h, .inr (1, [.ref h_places, .ref h_creams, g_present, .int f_lying, .int f_his, .int f_power, .int f_spite, .int f_hour])), (h_places, .inl (cI, 8, .inl f_places)), (h_creams, .inl (cI, 8, .inl f_creams))]
abbrev q_X1_passHour (D : va_G) (cI : ClassId) (h h_places h_creams : Nat) (g_present : Value) (post : (Nat → Int32) → Int32 → Prop) (f_places : Nat → Int32) (f_lying : Int32) (f_his : Int32) (f_power : Int32) (f_spite : Int32) (A : Nat → Prop) : Array Value → State → Outcome → State → Prop := va_Qv (S := (Nat → Int32) × Int32) (fun u => post u.1 u.2) (fun u t => va_P D vwCl (cw_X1_passHour cI h h_places h_creams g_present f_places u.1 f_lying f_his f_power f_spite u.2) t.heap) A
abbrev v_X1_passHour : List Cond := .code yX1_passHour cX1_passHour 2 none :: zB
theorem hd_X1_passHour : yX1_passHour.cls = RX1 ∧ yX1_passHour.cls ≠ "java/lang/invoke/MethodHandle" ∧ yX1_passHour.cls ≠ "java/lang/invoke/VarHandle" ∧ (parseMethodDescriptor yX1_passHour.desc).map (fun d => d.parameters.length) = some 0 := by decide +kernel
set_option maxHeartbeats 4000000 in
set_option maxRecDepth 100000 in
theorem c_X1_passHour (l : Launch) (D : va_G) (cI cC cZ : ClassId) (h h_places h_creams : Nat) (g_present : Value) (f_places : Nat → Int32) (f_creams : Nat → Int32) (f_lying : Int32) (f_his : Int32) (f_power : Int32) (f_spite : Int32) (f_hour : Int32) (sz : Nat) (post : (Nat → Int32) → Int32 → Prop) (hw : w_X1_passHour post f_places f_creams f_lying f_his f_power f_spite f_hour) : Met l yX1_passHour v_X1_passHour ({ frames := 3, cells := 0, slots := 0, locals := 72 } : Room) (va_Pc [.ref h] (zPre D (zT cI cC cZ) sz (cw_X1_passHour cI h h_places h_creams g_present f_places f_creams f_lying f_his f_power f_spite f_hour))) (q_X1_passHour D cI h h_places h_creams g_present post f_places f_lying f_his f_power f_spite (va_A (cw_X1_passHour cI h h_places h_creams g_present f_places f_creams f_lying f_his f_power f_spite f_hour) sz)) 0 0 (va_A (cw_X1_passHour cI h h_places h_creams g_present f_places f_creams f_lying f_his f_power f_spite f_hour) sz) := by
  refine Met.ofW (cc := cX1_passHour) (maxL := 2) (ret := none) (by decide) rfl ?_
  intro p e s m args below meth c s₁ B hml hv
  obtain ⟨rfl, hsz, hP, hK, hD0⟩ := hv
  subst hsz
  have hx := B.exec
  have hb := B.bytes
  have hr := B.returns
  have hz : ∀ w ∈ zB, w.before _ s = true := fun w h => atoms_spec (ws := v_X1_passHour) B.pre w (List.mem_cons_of_mem _ h)
  have hown : s.vm.findClass RX1 = some m.cls := findClass_of_methodNamed B.named
  have hlocks := B.notSynchronized
  have hF : CallFix p m c cX1_passHour 2 s (([.ref h] : List Value).toArray) zB RX1 := ⟨hx, hb, hml, hown, hz⟩
  have hD := hD0.self (sz := s.heap.size)
  generalize hAe : va_A (cw_X1_passHour cI h h_places h_creams g_present f_places f_creams f_lying f_his f_power f_spite f_hour) s.heap.size = A at hD ⊢
  have hA : ∀ q : Nat, s.heap.size ≤ q → A q := fun q h => by rw [← hAe]; exact Or.inr h
  have hS : va_S A s.heap s.heap [] := va_S.rf
  have hP : va_P D vwCl (cw_X1_passHour cI h h_places h_creams g_present f_places f_creams f_lying f_his f_power f_spite f_hour) s.heap := hP
  have hl := lv_entry ([.ref h]) (n := 2) (Nat.le_of_ble_eq_true rfl)
  rw [lg_entry_eq]
  generalize (lg_sl ([.ref h]) ++ List.replicate (2 - (lg_sl ([.ref h])).length) Slot.unset).toArray = ls at hl ⊢
  have hl : lv_has ls 2 [(0, .ref h)] := hl
  have L2 : ∀ (n2 : Nat) (f_creams : Nat → Int32) (f_hour : Int32) (x1 : Int32) (H : Heap) (locs : List Loc) (ls : Array Slot) (hw : w_X1_passHour_B2 post f_places f_lying f_his f_power f_spite n2 f_creams f_hour x1) (hP : va_P D vwCl (cw_X1_passHour cI h h_places h_creams g_present f_places f_creams f_lying f_his f_power f_spite f_hour) H) (hD : va_D A (cw_X1_passHour cI h h_places h_creams g_present f_places f_creams f_lying f_his f_power f_spite f_hour)) (hS : va_S A s.heap H locs) (hl : lv_has ls 2 [(0, .ref h), (1, .int x1)]), W p l e (headSpec v_X1_passHour ({ frames := 3, cells := 0, slots := 0, locals := 72 } : Room)).room s m (([.ref h] : List Value).toArray) below meth c H locs 0 0 (MQ below (q_X1_passHour D cI h h_places h_creams g_present post f_places f_lying f_his f_power f_spite A) (([.ref h] : List Value).toArray) s 0 0 A) (F0 m 2 ls []) := by
    intro n2
    induction n2 with
    | zero => intro f_creams f_hour x1 H locs ls hw; exact False.elim hw
    | succ n2 ih2 =>
      intro f_creams f_hour x1 H locs ls hw hP hD hS hl
      unfold w_X1_passHour_B2 at hw
      refine lv_iload_n hx hb dX1_passHour_2 rfl (lv_at hl 1 rfl) ?_
      refine lv_bipush (v := (8 : Int32)) hx hb dX1_passHour_3 (by decide) ?_
      refine lv_icmp_ge (tgt := 24) hx hb dX1_passHour_5 (by decide) (fun c5 => ?_) (fun c5 => ?_)
      · have hw := hw.1 c5
        refine lv_aload_n hx hb dX1_passHour_24 rfl (lv_at hl 0 rfl) ?_
        refine lv_dup hx hb dX1_passHour_25 rfl ?_
        refine va_get (D := D) (ci := 1) (v := .int f_hour) (C := RX1) (T := TX1) (N := 8) hx hb hz hX_X1 hown hK.1 hP 0 rfl rfl 7 (by decide) (hz _ z1_46) (fun _ h9 => h9) rfl dX1_passHour_26 ?_
        refine lv_iconst (v := (1 : Int32)) hx hb dX1_passHour_29 (by decide) ?_
        refine lv_iadd hx hb dX1_passHour_30 ?_
        refine va_put (D := D) (ci := 1) (v := .int (f_hour + (1 : Int32))) (ty := .int) (C := RX1) (T := TX1) (N := 8) hx hb hz hX_X1 tyX1 tyX1_ok nmX1 hown hK.1 hP hD hS 0 rfl rfl 7 (by decide) (hz _ z1_46) (fun _ h9 => h9) rfl (tyX1_ok 7 (by decide)) rfl rfl (Nat.le_of_ble_eq_true rfl) dX1_passHour_31 (fun H locs hP hD hS => ?_)
        have hP : va_P D vwCl (cw_X1_passHour cI h h_places h_creams g_present f_places f_creams f_lying f_his f_power f_spite (f_hour + (1 : Int32))) H := hP
        have hD : va_D A (cw_X1_passHour cI h h_places h_creams g_present f_places f_creams f_lying f_his f_power f_spite (f_hour + (1 : Int32))) := hD
        exact z_vret hx hb hr hlocks (f_creams, (f_hour + (1 : Int32))) hw hP hS dX1_passHour_34
      have hw := hw.2 c5
      refine lv_aload_n hx hb dX1_passHour_8 rfl (lv_at hl 0 rfl) ?_
      refine lv_iload_n hx hb dX1_passHour_9 rfl (lv_at hl 1 rfl) ?_
      refine lv_aload_n hx hb dX1_passHour_10 rfl (lv_at hl 0 rfl) ?_
      refine lv_iload_n hx hb dX1_passHour_11 rfl (lv_at hl 1 rfl) ?_
      refine z_ri (z_runV (As := [.int x1]) (rest := [.int x1, .ref h]) hF (c_X1_lossInAnHour l D cI cC cZ h h_places (.ref h_creams) g_present (.int f_hour) f_places f_lying f_his f_power f_spite x1 _ _ hw) (cwV 1 hz (z_gV z2_121 z2_122 z2_123 z1_3 z2_124) rfl rfl rfl hd_X1_lossInAnHour ⟨Nat.le_of_ble_eq_true rfl, Nat.le_of_ble_eq_true rfl⟩) hK hP hD [0, 1] rfl rfl 0 1 rfl rfl rfl rfl hl.1 rfl (Nat.le_of_ble_eq_true rfl) dX1_passHour_12 ⟨Nat.zero_le _, Nat.zero_le _⟩) hP hD hS hA [0, 1] rfl (fun _ => rfl) (fun _ => cw_X1_passHour cI h h_places h_creams g_present f_places f_creams f_lying f_his f_power f_spite f_hour) (fun _ => rfl) (fun r12 u12 H locs hw hP hD hS => ?_)
      try dsimp only at hw
      refine z_rv (z_runV (As := [.int x1, .int r12]) (rest := []) hF (c_X1_spoil l D cI cC cZ h h_creams (.ref h_places) g_present (.int f_lying) (.int f_his) (.int f_power) (.int f_spite) (.int f_hour) f_creams x1 r12 _ _ hw) (cwV 2 hz (z_gV z2_132 z2_134 zp_9 z1_3 z2_135) rfl rfl rfl hd_X1_spoil ⟨Nat.le_of_ble_eq_true rfl, Nat.le_of_ble_eq_true rfl⟩) hK hP hD [0, 2] rfl rfl 0 1 rfl rfl rfl rfl hl.1 rfl (Nat.le_of_ble_eq_true rfl) dX1_passHour_15 ⟨Nat.zero_le _, Nat.zero_le _⟩) hP hD hS hA [0, 2] rfl (fun _ => rfl) (fun u => cw_X1_passHour cI h h_places h_creams g_present f_places u f_lying f_his f_power f_spite f_hour) (fun _ => rfl) (fun u15_0 H locs hw hP hD hS => ?_)
      try dsimp only at hw
      have hP : va_P D vwCl (cw_X1_passHour cI h h_places h_creams g_present f_places u15_0 f_lying f_his f_power f_spite f_hour) H := hP
      have hD : va_D A (cw_X1_passHour cI h h_places h_creams g_present f_places u15_0 f_lying f_his f_power f_spite f_hour) := hD
      refine lv_iinc (k := 1) (v := (x1 + 1)) (lv' := [(1, .int (x1 + 1)), (0, .ref h)]) hx hb dX1_passHour_18 hl rfl rfl (by decide) rfl (fun ls hl => ?_)
      refine lv_goto (tgt := 2) hx hb dX1_passHour_21 (by decide) ?_
      exact ih2 u15_0 f_hour (x1 + 1) _ _ _ hw hP hD hS (lv_sub hl [1, 0] rfl)
  unfold w_X1_passHour at hw
  refine lv_iconst (v := (0 : Int32)) hx hb dX1_passHour_0 (by decide) ?_
  refine lv_istore_n (lv' := [(1, .int (0 : Int32)), (0, .ref h)]) hx hb dX1_passHour_1 rfl hl (by decide) rfl (fun ls hl => ?_)
  obtain ⟨n2, hw⟩ := hw
  exact L2 n2 f_creams f_hour (0 : Int32) _ _ _ hw hP hD hS (lv_sub hl [1, 0] rfl)
abbrev cw_X1_refill (cI : ClassId) (h h_creams : Nat) (g_places g_present g_lying g_his g_power g_spite g_hour : Value) (f_creams : Nat → Int32) : va_W := [(h, .inr (1, [g_places, .ref h_creams, g_present, g_lying, g_his, g_power, g_spite, g_hour])), (h_creams, .inl (cI, 8, .inl f_creams))]
abbrev q_X1_refill (D : va_G) (cI : ClassId) (h h_creams : Nat) (g_places g_present g_lying g_his g_power g_spite g_hour : Value) (post : (Nat → Int32) → Prop) (A : Nat → Prop) : Array Value → State → Outcome → State → Prop := va_Qv (S := (Nat → Int32)) (fun u => post u) (fun u t => va_P D vwCl (cw_X1_refill cI h h_creams g_places g_present g_lying g_his g_power g_spite g_hour u) t.heap) A
abbrev v_X1_refill : List Cond := .code yX1_refill cX1_refill 2 none :: zB
theorem hd_X1_refill : yX1_refill.cls = RX1 ∧ yX1_refill.cls ≠ "java/lang/invoke/MethodHandle" ∧ yX1_refill.cls ≠ "java/lang/invoke/VarHandle" ∧ (parseMethodDescriptor yX1_refill.desc).map (fun d => d.parameters.length) = some 1 := by decide +kernel
set_option maxHeartbeats 4000000 in
set_option maxRecDepth 100000 in
theorem c_X1_refill (l : Launch) (D : va_G) (cI cC cZ : ClassId) (h h_creams : Nat) (g_places g_present g_lying g_his g_power g_spite g_hour : Value) (f_creams : Nat → Int32) (p1 : Int32) (sz : Nat) (post : (Nat → Int32) → Prop) (hw : w_X1_refill post f_creams p1) : Met l yX1_refill v_X1_refill ({ frames := 1, cells := 0, slots := 0, locals := 20 } : Room) (va_Pc [.ref h, .int p1] (zPre D (zT cI cC cZ) sz (cw_X1_refill cI h h_creams g_places g_present g_lying g_his g_power g_spite g_hour f_creams))) (q_X1_refill D cI h h_creams g_places g_present g_lying g_his g_power g_spite g_hour post (va_A (cw_X1_refill cI h h_creams g_places g_present g_lying g_his g_power g_spite g_hour f_creams) sz)) 0 0 (va_A (cw_X1_refill cI h h_creams g_places g_present g_lying g_his g_power g_spite g_hour f_creams) sz) := by
  refine Met.ofW (cc := cX1_refill) (maxL := 2) (ret := none) (by decide) rfl ?_
  intro p e s m args below meth c s₁ B hml hv
  obtain ⟨rfl, hsz, hP, hK, hD0⟩ := hv
  subst hsz
  have hx := B.exec
  have hb := B.bytes
  have hr := B.returns
  have hz : ∀ w ∈ zB, w.before _ s = true := fun w h => atoms_spec (ws := v_X1_refill) B.pre w (List.mem_cons_of_mem _ h)
  have hown : s.vm.findClass RX1 = some m.cls := findClass_of_methodNamed B.named
  have hlocks := B.notSynchronized
  have hF : CallFix p m c cX1_refill 2 s (([.ref h, .int p1] : List Value).toArray) zB RX1 := ⟨hx, hb, hml, hown, hz⟩
  have hD := hD0.self (sz := s.heap.size)
  generalize hAe : va_A (cw_X1_refill cI h h_creams g_places g_present g_lying g_his g_power g_spite g_hour f_creams) s.heap.size = A at hD ⊢
  have hA : ∀ q : Nat, s.heap.size ≤ q → A q := fun q h => by rw [← hAe]; exact Or.inr h
  have hS : va_S A s.heap s.heap [] := va_S.rf
  have hP : va_P D vwCl (cw_X1_refill cI h h_creams g_places g_present g_lying g_his g_power g_spite g_hour f_creams) s.heap := hP
  have hl := lv_entry ([.ref h, .int p1]) (n := 2) (Nat.le_of_ble_eq_true rfl)
  rw [lg_entry_eq]
  generalize (lg_sl ([.ref h, .int p1]) ++ List.replicate (2 - (lg_sl ([.ref h, .int p1])).length) Slot.unset).toArray = ls at hl ⊢
  have hl : lv_has ls 2 [(0, .ref h), (1, .int p1)] := hl
  unfold w_X1_refill at hw
  refine lv_iload_n hx hb dX1_refill_0 rfl (lv_at hl 1 rfl) ?_
  refine z_ri (z_runSN (As := [.int p1]) (rest := []) hF (c_X8_isWitness l D cI cC cZ p1 _ _ hw) ⟨va_cnB 1 hz (z_gN z1_208) rfl rfl rfl (hK.2.1 _ (List.mem_of_getElem? (i := 18) rfl)) (hz _ z1_1) hd_X8_isWitness ⟨Nat.le_of_ble_eq_true rfl, Nat.le_of_ble_eq_true rfl⟩, (hz _ z1_207), trivial⟩ hK hP hD [] rfl rfl rfl hl.1 rfl (Nat.le_of_ble_eq_true rfl) dX1_refill_1 ⟨Nat.zero_le _, Nat.zero_le _⟩) hP hD hS hA [] rfl (fun _ => rfl) (fun _ => cw_X1_refill cI h h_creams g_places g_present g_lying g_his g_power g_spite g_hour f_creams) (fun _ => rfl) (fun r1 u1 H locs hw hP hD hS => ?_)
  obtain ⟨hn1, hw⟩ := hw
  try dsimp only at hw
  refine lv_if_eq (tgt := 15) hx hb dX1_refill_4 (by decide) (fun c4 => ?_) (fun c4 => ?_)
  · have hw := hw.1 c4
    exact z_vret hx hb hr hlocks f_creams hw hP hS dX1_refill_15
  have hw := hw.2 c4
  refine lv_aload_n hx hb dX1_refill_7 rfl (lv_at hl 0 rfl) ?_
  refine va_get (D := D) (ci := 1) (v := .ref h_creams) (C := RX1) (T := TX1) (N := 8) hx hb hz hX_X1 hown hK.1 hP 0 rfl rfl 1 (by decide) (hz _ z1_36) (fun _ h9 => h9) rfl dX1_refill_8 ?_
  refine lv_iload_n hx hb dX1_refill_11 rfl (lv_at hl 1 rfl) ?_
  refine lv_bipush (v := (50 : Int32)) hx hb dX1_refill_12 (by decide) ?_
  obtain ⟨hi14, hw⟩ := hw
  refine va_iast hx hb hK.1 hP hD hS 1 0 rfl rfl hi14 dX1_refill_14 (fun H locs hP hD hS => ?_)
  have hP : va_P D vwCl (cw_X1_refill cI h h_creams g_places g_present g_lying g_his g_power g_spite g_hour (upd f_creams p1.toNatClampNeg (50 : Int32))) H := hP
  have hD : va_D A (cw_X1_refill cI h h_creams g_places g_present g_lying g_his g_power g_spite g_hour (upd f_creams p1.toNatClampNeg (50 : Int32))) := hD
  exact z_vret hx hb hr hlocks (upd f_creams p1.toNatClampNeg (50 : Int32)) hw hP hS dX1_refill_15
abbrev cw_X1_act (cI : ClassId) (h h_places h_creams : Nat) (f_places : Nat → Int32) (f_creams : Nat → Int32) (f_present : Int32) (f_lying : Int32) (f_his : Int32) (f_power : Int32) (f_spite : Int32) (f_hour : Int32) : va_W := [(h, .inr (1, [.ref h_places, .ref h_creams, .int f_present, .int f_lying, .int f_his, .int f_power, .int f_spite, .int f_hour])), (h_places, .inl (cI, 8, .inl f_places)), (h_creams, .inl (cI, 8, .inl f_creams))]
abbrev q_X1_act (D : va_G) (cI : ClassId) (h h_places h_creams : Nat) (post : (Nat → Int32) → Int32 → Int32 → Int32 → Int32 → Prop) (f_places : Nat → Int32) (f_power : Int32) (f_spite : Int32) (A : Nat → Prop) : Array Value → State → Outcome → State → Prop := va_Qv (S := (Nat → Int32) × Int32 × Int32 × Int32 × Int32) (fun u => post u.1 u.2.1 u.2.2.1 u.2.2.2.1 u.2.2.2.2) (fun u t => va_P D vwCl (cw_X1_act cI h h_places h_creams f_places u.1 u.2.1 u.2.2.1 u.2.2.2.1 f_power f_spite u.2.2.2.2) t.heap) A
abbrev v_X1_act : List Cond := .code yX1_act cX1_act 3 none :: zB
theorem hd_X1_act : yX1_act.cls = RX1 ∧ yX1_act.cls ≠ "java/lang/invoke/MethodHandle" ∧ yX1_act.cls ≠ "java/lang/invoke/VarHandle" ∧ (parseMethodDescriptor yX1_act.desc).map (fun d => d.parameters.length) = some 2 := by decide +kernel
set_option maxHeartbeats 4000000 in
set_option maxRecDepth 100000 in
theorem c_X1_act (l : Launch) (D : va_G) (cI cC cZ : ClassId) (h h_places h_creams : Nat) (f_places : Nat → Int32) (f_creams : Nat → Int32) (f_present : Int32) (f_lying : Int32) (f_his : Int32) (f_power : Int32) (f_spite : Int32) (f_hour : Int32) (p1 : Int32) (p2 : Int32) (sz : Nat) (post : (Nat → Int32) → Int32 → Int32 → Int32 → Int32 → Prop) (hw : w_X1_act post f_places f_creams f_present f_lying f_his f_power f_spite f_hour p1 p2) : Met l yX1_act v_X1_act ({ frames := 4, cells := 0, slots := 0, locals := 93 } : Room) (va_Pc [.ref h, .int p1, .int p2] (zPre D (zT cI cC cZ) sz (cw_X1_act cI h h_places h_creams f_places f_creams f_present f_lying f_his f_power f_spite f_hour))) (q_X1_act D cI h h_places h_creams post f_places f_power f_spite (va_A (cw_X1_act cI h h_places h_creams f_places f_creams f_present f_lying f_his f_power f_spite f_hour) sz)) 0 0 (va_A (cw_X1_act cI h h_places h_creams f_places f_creams f_present f_lying f_his f_power f_spite f_hour) sz) := by
  refine Met.ofW (cc := cX1_act) (maxL := 3) (ret := none) (by decide) rfl ?_
  intro p e s m args below meth c s₁ B hml hv
  obtain ⟨rfl, hsz, hP, hK, hD0⟩ := hv
  subst hsz
  have hx := B.exec
  have hb := B.bytes
  have hr := B.returns
  have hz : ∀ w ∈ zB, w.before _ s = true := fun w h => atoms_spec (ws := v_X1_act) B.pre w (List.mem_cons_of_mem _ h)
  have hown : s.vm.findClass RX1 = some m.cls := findClass_of_methodNamed B.named
  have hlocks := B.notSynchronized
  have hF : CallFix p m c cX1_act 3 s (([.ref h, .int p1, .int p2] : List Value).toArray) zB RX1 := ⟨hx, hb, hml, hown, hz⟩
  have hD := hD0.self (sz := s.heap.size)
  generalize hAe : va_A (cw_X1_act cI h h_places h_creams f_places f_creams f_present f_lying f_his f_power f_spite f_hour) s.heap.size = A at hD ⊢
  have hA : ∀ q : Nat, s.heap.size ≤ q → A q := fun q h => by rw [← hAe]; exact Or.inr h
  have hS : va_S A s.heap s.heap [] := va_S.rf
  have hP : va_P D vwCl (cw_X1_act cI h h_places h_creams f_places f_creams f_present f_lying f_his f_power f_spite f_hour) s.heap := hP
  have hl := lv_entry ([.ref h, .int p1, .int p2]) (n := 3) (Nat.le_of_ble_eq_true rfl)
  rw [lg_entry_eq]
  generalize (lg_sl ([.ref h, .int p1, .int p2]) ++ List.replicate (3 - (lg_sl ([.ref h, .int p1, .int p2])).length) Slot.unset).toArray = ls at hl ⊢
  have hl : lv_has ls 3 [(0, .ref h), (1, .int p1), (2, .int p2)] := hl
  have J127 : ∀ (f_creams : Nat → Int32) (f_present : Int32) (f_lying : Int32) (f_his : Int32) (f_hour : Int32) (s1 : Int32) (s2 : Int32) (s3 : Int32) (H : Heap) (locs : List Loc) (ls : Array Slot) (hw : w_X1_act_B127 post f_places f_power f_spite p1 p2 f_creams f_present f_lying f_his f_hour s1 s2 s3) (hP : va_P D vwCl (cw_X1_act cI h h_places h_creams f_places f_creams f_present f_lying f_his f_power f_spite f_hour) H) (hD : va_D A (cw_X1_act cI h h_places h_creams f_places f_creams f_present f_lying f_his f_power f_spite f_hour)) (hS : va_S A s.heap H locs) (hl : lv_has ls 3 []), W p l e (headSpec v_X1_act ({ frames := 4, cells := 0, slots := 0, locals := 93 } : Room)).room s m (([.ref h, .int p1, .int p2] : List Value).toArray) below meth c H locs 0 0 (MQ below (q_X1_act D cI h h_places h_creams post f_places f_power f_spite A) (([.ref h, .int p1, .int p2] : List Value).toArray) s 0 0 A) (F0 m 127 ls [.int s3, .int s2, .int s1, .ref h]) := by
    intro f_creams f_present f_lying f_his f_hour s1 s2 s3 H locs ls hw hP hD hS hl
    unfold w_X1_act_B127 at hw
    refine lv_iadd hx hb dX1_act_127 ?_
    refine z_rv (z_runV (As := [.int s1, .int (s2 + s3)]) (rest := []) hF (c_X1_spoil l D cI cC cZ h h_creams (.ref h_places) (.int f_present) (.int f_lying) (.int f_his) (.int f_power) (.int f_spite) (.int f_hour) f_creams s1 (s2 + s3) _ _ hw) (cwV 2 hz (z_gV z2_132 z2_134 zp_9 z1_3 z2_135) rfl rfl rfl hd_X1_spoil ⟨Nat.le_of_ble_eq_true rfl, Nat.le_of_ble_eq_true rfl⟩) hK hP hD [0, 2] rfl rfl 0 1 rfl rfl rfl rfl hl.1 rfl (Nat.le_of_ble_eq_true rfl) dX1_act_128 ⟨Nat.zero_le _, Nat.zero_le _⟩) hP hD hS hA [0, 2] rfl (fun _ => rfl) (fun u => cw_X1_act cI h h_places h_creams f_places u f_present f_lying f_his f_power f_spite f_hour) (fun _ => rfl) (fun u128_0 H locs hw hP hD hS => ?_)
    try dsimp only at hw
    have hP : va_P D vwCl (cw_X1_act cI h h_places h_creams f_places u128_0 f_present f_lying f_his f_power f_spite f_hour) H := hP
    have hD : va_D A (cw_X1_act cI h h_places h_creams f_places u128_0 f_present f_lying f_his f_power f_spite f_hour) := hD
    refine lv_goto (tgt := 174) hx hb dX1_act_131 (by decide) ?_
    exact z_vret hx hb hr hlocks (u128_0, f_present, f_lying, f_his, f_hour) hw hP hS dX1_act_174
  unfold w_X1_act at hw
  refine lv_iload_n hx hb dX1_act_0 rfl (lv_at hl 1 rfl) ?_
  by_cases c1_33 : p1 = (33 : Int32)
  · have hw := hw.1 c1_33
    refine lv_lookup (off := 156) (tgt := 157) hx hb dX1_act_1 (by decide) (by rw [c1_33]; rfl) (by decide) ?_
    refine lv_aload_n hx hb dX1_act_157 rfl (lv_at hl 0 rfl) ?_
    refine lv_dup hx hb dX1_act_158 rfl ?_
    refine va_get (D := D) (ci := 1) (v := .int f_present) (C := RX1) (T := TX1) (N := 8) hx hb hz hX_X1 hown hK.1 hP 0 rfl rfl 2 (by decide) (hz _ z1_37) (fun _ h9 => h9) rfl dX1_act_159 ?_
    refine lv_iconst (v := (1 : Int32)) hx hb dX1_act_162 (by decide) ?_
    refine lv_iload_n hx hb dX1_act_163 rfl (lv_at hl 2 rfl) ?_
    refine lv_ishl hx hb dX1_act_164 ?_
    refine lv_iconst (v := (-1 : Int32)) hx hb dX1_act_165 (by decide) ?_
    refine lv_ixor hx hb dX1_act_166 ?_
    refine lv_iand hx hb dX1_act_167 ?_
    refine lv_topi (fun y168 ey168 => ?_)
    have hw := hw y168 ey168
    refine va_put (D := D) (ci := 1) (v := .int y168) (ty := .int) (C := RX1) (T := TX1) (N := 8) hx hb hz hX_X1 tyX1 tyX1_ok nmX1 hown hK.1 hP hD hS 0 rfl rfl 2 (by decide) (hz _ z1_37) (fun _ h9 => h9) rfl (tyX1_ok 2 (by decide)) rfl rfl (Nat.le_of_ble_eq_true rfl) dX1_act_168 (fun H locs hP hD hS => ?_)
    have hP : va_P D vwCl (cw_X1_act cI h h_places h_creams f_places f_creams y168 f_lying f_his f_power f_spite f_hour) H := hP
    have hD : va_D A (cw_X1_act cI h h_places h_creams f_places f_creams y168 f_lying f_his f_power f_spite f_hour) := hD
    refine lv_goto (tgt := 174) hx hb dX1_act_171 (by decide) ?_
    exact z_vret hx hb hr hlocks (f_creams, y168, f_lying, f_his, f_hour) hw hP hS dX1_act_174
  have hw := hw.2 c1_33
  have i1_33 : p1.toInt ≠ 33 := fun h => c1_33 (Int32.toInt_inj.mp (h.trans (by decide)))
  by_cases c1_46 : p1 = (46 : Int32)
  · have hw := hw.1 c1_46
    refine lv_lookup (off := 93) (tgt := 94) hx hb dX1_act_1 (by decide) (by rw [c1_46]; rfl) (by decide) ?_
    refine lv_aload_n hx hb dX1_act_94 rfl (lv_at hl 0 rfl) ?_
    refine z_rv (z_runV (As := []) (rest := []) hF (c_X1_passHour l D cI cC cZ h h_places h_creams (.int f_present) f_places f_creams f_lying f_his f_power f_spite f_hour _ _ hw) (cwV 0 hz (z_gV z2_117 z2_119 zp_8 z1_3 z2_120) rfl rfl rfl hd_X1_passHour ⟨Nat.le_of_ble_eq_true rfl, Nat.le_of_ble_eq_true rfl⟩) hK hP hD [0, 1, 2] rfl rfl 0 1 rfl rfl rfl rfl hl.1 rfl (Nat.le_of_ble_eq_true rfl) dX1_act_95 ⟨Nat.zero_le _, Nat.zero_le _⟩) hP hD hS hA [0, 1, 2] rfl (fun _ => rfl) (fun u => cw_X1_act cI h h_places h_creams f_places u.1 f_present f_lying f_his f_power f_spite u.2) (fun _ => rfl) (fun u95 H locs hw hP hD hS => ?_)
    obtain ⟨u95_0, u95_1⟩ := u95
    try dsimp only at hw
    have hP : va_P D vwCl (cw_X1_act cI h h_places h_creams f_places u95_0 f_present f_lying f_his f_power f_spite u95_1) H := hP
    have hD : va_D A (cw_X1_act cI h h_places h_creams f_places u95_0 f_present f_lying f_his f_power f_spite u95_1) := hD
    refine lv_goto (tgt := 174) hx hb dX1_act_98 (by decide) ?_
    exact z_vret hx hb hr hlocks (u95_0, f_present, f_lying, f_his, u95_1) hw hP hS dX1_act_174
  have hw := hw.2 c1_46
  have i1_46 : p1.toInt ≠ 46 := fun h => c1_46 (Int32.toInt_inj.mp (h.trans (by decide)))
  by_cases c1_60 : p1 = (60 : Int32)
  · have hw := hw.1 c1_60
    refine lv_lookup (off := 80) (tgt := 81) hx hb dX1_act_1 (by decide) (by rw [c1_60]; rfl) (by decide) ?_
    refine lv_aload_n hx hb dX1_act_81 rfl (lv_at hl 0 rfl) ?_
    refine lv_dup hx hb dX1_act_82 rfl ?_
    refine va_get (D := D) (ci := 1) (v := .int f_his) (C := RX1) (T := TX1) (N := 8) hx hb hz hX_X1 hown hK.1 hP 0 rfl rfl 4 (by decide) (hz _ z1_40) (fun _ h9 => h9) rfl dX1_act_83 ?_
    refine lv_iload_n hx hb dX1_act_86 rfl (lv_at hl 2 rfl) ?_
    refine lv_isub hx hb dX1_act_87 ?_
    refine va_put (D := D) (ci := 1) (v := .int (f_his - p2)) (ty := .int) (C := RX1) (T := TX1) (N := 8) hx hb hz hX_X1 tyX1 tyX1_ok nmX1 hown hK.1 hP hD hS 0 rfl rfl 4 (by decide) (hz _ z1_40) (fun _ h9 => h9) rfl (tyX1_ok 4 (by decide)) rfl rfl (Nat.le_of_ble_eq_true rfl) dX1_act_88 (fun H locs hP hD hS => ?_)
    have hP : va_P D vwCl (cw_X1_act cI h h_places h_creams f_places f_creams f_present f_lying (f_his - p2) f_power f_spite f_hour) H := hP
    have hD : va_D A (cw_X1_act cI h h_places h_creams f_places f_creams f_present f_lying (f_his - p2) f_power f_spite f_hour) := hD
    refine lv_goto (tgt := 174) hx hb dX1_act_91 (by decide) ?_
    exact z_vret hx hb hr hlocks (f_creams, f_present, f_lying, (f_his - p2), f_hour) hw hP hS dX1_act_174
  have hw := hw.2 c1_60
  have i1_60 : p1.toInt ≠ 60 := fun h => c1_60 (Int32.toInt_inj.mp (h.trans (by decide)))
  by_cases c1_61 : p1 = (61 : Int32)
  · have hw := hw.1 c1_61
    refine lv_lookup (off := 133) (tgt := 134) hx hb dX1_act_1 (by decide) (by rw [c1_61]; rfl) (by decide) ?_
    refine lv_aload_n hx hb dX1_act_134 rfl (lv_at hl 0 rfl) ?_
    refine lv_iload_n hx hb dX1_act_135 rfl (lv_at hl 2 rfl) ?_
    refine z_rv (z_runV (As := [.int p2]) (rest := []) hF (c_X1_refill l D cI cC cZ h h_creams (.ref h_places) (.int f_present) (.int f_lying) (.int f_his) (.int f_power) (.int f_spite) (.int f_hour) f_creams p2 _ _ hw) (cwV 1 hz (z_gV z2_139 z2_141 zp_10 z1_3 z2_142) rfl rfl rfl hd_X1_refill ⟨Nat.le_of_ble_eq_true rfl, Nat.le_of_ble_eq_true rfl⟩) hK hP hD [0, 2] rfl rfl 0 1 rfl rfl rfl rfl hl.1 rfl (Nat.le_of_ble_eq_true rfl) dX1_act_136 ⟨Nat.zero_le _, Nat.zero_le _⟩) hP hD hS hA [0, 2] rfl (fun _ => rfl) (fun u => cw_X1_act cI h h_places h_creams f_places u f_present f_lying f_his f_power f_spite f_hour) (fun _ => rfl) (fun u136_0 H locs hw hP hD hS => ?_)
    try dsimp only at hw
    have hP : va_P D vwCl (cw_X1_act cI h h_places h_creams f_places u136_0 f_present f_lying f_his f_power f_spite f_hour) H := hP
    have hD : va_D A (cw_X1_act cI h h_places h_creams f_places u136_0 f_present f_lying f_his f_power f_spite f_hour) := hD
    refine lv_goto (tgt := 174) hx hb dX1_act_139 (by decide) ?_
    exact z_vret hx hb hr hlocks (u136_0, f_present, f_lying, f_his, f_hour) hw hP hS dX1_act_174
  have hw := hw.2 c1_61
  have i1_61 : p1.toInt ≠ 61 := fun h => c1_61 (Int32.toInt_inj.mp (h.trans (by decide)))
  by_cases c1_62 : p1 = (62 : Int32)
  · have hw := hw.1 c1_62
    refine lv_lookup (off := 67) (tgt := 68) hx hb dX1_act_1 (by decide) (by rw [c1_62]; rfl) (by decide) ?_
    refine lv_aload_n hx hb dX1_act_68 rfl (lv_at hl 0 rfl) ?_
    refine lv_dup hx hb dX1_act_69 rfl ?_
    refine va_get (D := D) (ci := 1) (v := .int f_his) (C := RX1) (T := TX1) (N := 8) hx hb hz hX_X1 hown hK.1 hP 0 rfl rfl 4 (by decide) (hz _ z1_40) (fun _ h9 => h9) rfl dX1_act_70 ?_
    refine lv_iload_n hx hb dX1_act_73 rfl (lv_at hl 2 rfl) ?_
    refine lv_iadd hx hb dX1_act_74 ?_
    refine va_put (D := D) (ci := 1) (v := .int (f_his + p2)) (ty := .int) (C := RX1) (T := TX1) (N := 8) hx hb hz hX_X1 tyX1 tyX1_ok nmX1 hown hK.1 hP hD hS 0 rfl rfl 4 (by decide) (hz _ z1_40) (fun _ h9 => h9) rfl (tyX1_ok 4 (by decide)) rfl rfl (Nat.le_of_ble_eq_true rfl) dX1_act_75 (fun H locs hP hD hS => ?_)
    have hP : va_P D vwCl (cw_X1_act cI h h_places h_creams f_places f_creams f_present f_lying (f_his + p2) f_power f_spite f_hour) H := hP
    have hD : va_D A (cw_X1_act cI h h_places h_creams f_places f_creams f_present f_lying (f_his + p2) f_power f_spite f_hour) := hD
    refine lv_goto (tgt := 174) hx hb dX1_act_78 (by decide) ?_
    exact z_vret hx hb hr hlocks (f_creams, f_present, f_lying, (f_his + p2), f_hour) hw hP hS dX1_act_174
  have hw := hw.2 c1_62
  have i1_62 : p1.toInt ≠ 62 := fun h => c1_62 (Int32.toInt_inj.mp (h.trans (by decide)))
  by_cases c1_63 : p1 = (63 : Int32)
  · have hw := hw.1 c1_63
    refine lv_lookup (off := 100) (tgt := 101) hx hb dX1_act_1 (by decide) (by rw [c1_63]; rfl) (by decide) ?_
    refine lv_aload_n hx hb dX1_act_101 rfl (lv_at hl 0 rfl) ?_
    refine lv_iload_n hx hb dX1_act_102 rfl (lv_at hl 2 rfl) ?_
    refine lv_iconst (v := (2 : Int32)) hx hb dX1_act_103 (by decide) ?_
    refine lv_aload_n hx hb dX1_act_104 rfl (lv_at hl 0 rfl) ?_
    refine va_get (D := D) (ci := 1) (v := .int f_power) (C := RX1) (T := TX1) (N := 8) hx hb hz hX_X1 hown hK.1 hP 0 rfl rfl 5 (by decide) (hz _ z1_42) (fun _ h9 => h9) rfl dX1_act_105 ?_
    refine lv_imul hx hb dX1_act_108 ?_
    refine lv_aload_n hx hb dX1_act_109 rfl (lv_at hl 0 rfl) ?_
    refine lv_iload_n hx hb dX1_act_110 rfl (lv_at hl 2 rfl) ?_
    refine z_ri (z_runV (As := [.int p2]) (rest := [.int ((2 : Int32) * f_power), .int p2, .ref h]) hF (c_X1_isLiar l D cI cC cZ h (.ref h_places) (.ref h_creams) (.int f_present) (.int f_his) (.int f_power) (.int f_spite) (.int f_hour) f_lying p2 _ _ hw) (cwV 1 hz (z_gV z2_125 z2_126 z2_127 z1_3 z2_128) rfl rfl rfl hd_X1_isLiar ⟨Nat.le_of_ble_eq_true rfl, Nat.le_of_ble_eq_true rfl⟩) hK hP hD [0] rfl rfl 0 1 rfl rfl rfl rfl hl.1 rfl (Nat.le_of_ble_eq_true rfl) dX1_act_111 ⟨Nat.zero_le _, Nat.zero_le _⟩) hP hD hS hA [0] rfl (fun _ => rfl) (fun _ => cw_X1_act cI h h_places h_creams f_places f_creams f_present f_lying f_his f_power f_spite f_hour) (fun _ => rfl) (fun r111 u111 H locs hw hP hD hS => ?_)
    obtain ⟨hn111, hw⟩ := hw
    try dsimp only at hw
    refine lv_if_eq (tgt := 126) hx hb dX1_act_114 (by decide) (fun c114 => ?_) (fun c114 => ?_)
    · have hw := hw.1 c114
      refine lv_iconst (v := (0 : Int32)) hx hb dX1_act_126 (by decide) ?_
      exact J127 f_creams f_present f_lying f_his f_hour p2 ((2 : Int32) * f_power) (0 : Int32) _ _ _ hw hP hD hS (lv_sub hl [] rfl)
    have hw := hw.2 c114
    refine lv_iconst (v := (3 : Int32)) hx hb dX1_act_117 (by decide) ?_
    refine lv_aload_n hx hb dX1_act_118 rfl (lv_at hl 0 rfl) ?_
    refine va_get (D := D) (ci := 1) (v := .int f_spite) (C := RX1) (T := TX1) (N := 8) hx hb hz hX_X1 hown hK.1 hP 0 rfl rfl 6 (by decide) (hz _ z1_44) (fun _ h9 => h9) rfl dX1_act_119 ?_
    refine lv_imul hx hb dX1_act_122 ?_
    refine lv_goto (tgt := 127) hx hb dX1_act_123 (by decide) ?_
    exact J127 f_creams f_present f_lying f_his f_hour p2 ((2 : Int32) * f_power) ((3 : Int32) * f_spite) _ _ _ hw hP hD hS (lv_sub hl [] rfl)
  have hw := hw.2 c1_63
  have i1_63 : p1.toInt ≠ 63 := fun h => c1_63 (Int32.toInt_inj.mp (h.trans (by decide)))
  by_cases c1_126 : p1 = (126 : Int32)
  · have hw := hw.1 c1_126
    refine lv_lookup (off := 141) (tgt := 142) hx hb dX1_act_1 (by decide) (by rw [c1_126]; rfl) (by decide) ?_
    refine lv_aload_n hx hb dX1_act_142 rfl (lv_at hl 0 rfl) ?_
    refine lv_dup hx hb dX1_act_143 rfl ?_
    refine va_get (D := D) (ci := 1) (v := .int f_lying) (C := RX1) (T := TX1) (N := 8) hx hb hz hX_X1 hown hK.1 hP 0 rfl rfl 3 (by decide) (hz _ z1_39) (fun _ h9 => h9) rfl dX1_act_144 ?_
    refine lv_iconst (v := (1 : Int32)) hx hb dX1_act_147 (by decide) ?_
    refine lv_iload_n hx hb dX1_act_148 rfl (lv_at hl 2 rfl) ?_
    refine lv_ishl hx hb dX1_act_149 ?_
    refine lv_ixor hx hb dX1_act_150 ?_
    refine lv_topi (fun y151 ey151 => ?_)
    have hw := hw y151 ey151
    refine va_put (D := D) (ci := 1) (v := .int y151) (ty := .int) (C := RX1) (T := TX1) (N := 8) hx hb hz hX_X1 tyX1 tyX1_ok nmX1 hown hK.1 hP hD hS 0 rfl rfl 3 (by decide) (hz _ z1_39) (fun _ h9 => h9) rfl (tyX1_ok 3 (by decide)) rfl rfl (Nat.le_of_ble_eq_true rfl) dX1_act_151 (fun H locs hP hD hS => ?_)
    have hP : va_P D vwCl (cw_X1_act cI h h_places h_creams f_places f_creams f_present y151 f_his f_power f_spite f_hour) H := hP
    have hD : va_D A (cw_X1_act cI h h_places h_creams f_places f_creams f_present y151 f_his f_power f_spite f_hour) := hD
    refine lv_goto (tgt := 174) hx hb dX1_act_154 (by decide) ?_
    exact z_vret hx hb hr hlocks (f_creams, f_present, y151, f_his, f_hour) hw hP hS dX1_act_174
  have hw := hw.2 c1_126
  have i1_126 : p1.toInt ≠ 126 := fun h => c1_126 (Int32.toInt_inj.mp (h.trans (by decide)))
  refine lv_lookup (off := 173) (tgt := 174) hx hb dX1_act_1 (by decide) (by simp only [Op.lookupswitch.offset] <;> omega) (by decide) ?_
  exact z_vret hx hb hr hlocks (f_creams, f_present, f_lying, f_his, f_hour) hw hP hS dX1_act_174
abbrev cw_J6_numberOfTrailingZeros_0f7a4 : va_W := []
abbrev q_J6_numberOfTrailingZeros_0f7a4 (D : va_G) (post : Int32 → Prop) (A : Nat → Prop) : Array Value → State → Outcome → State → Prop := va_Qi (S := Unit) (fun r _ => post r ) (fun _ t => va_P D vwCl (cw_J6_numberOfTrailingZeros_0f7a4) t.heap) A
abbrev v_J6_numberOfTrailingZeros_0f7a4 : List Cond := .code yJ6_numberOfTrailingZeros_0f7a4 cJ6_numberOfTrailingZeros_0f7a4 2 (some .int) :: zB
theorem hd_J6_numberOfTrailingZeros_0f7a4 : yJ6_numberOfTrailingZeros_0f7a4.cls ≠ "java/lang/invoke/MethodHandle" ∧ yJ6_numberOfTrailingZeros_0f7a4.cls ≠ "java/lang/invoke/VarHandle" ∧ (parseMethodDescriptor yJ6_numberOfTrailingZeros_0f7a4.desc).map (fun d => d.parameters.length) = some 1 := by decide +kernel
set_option maxHeartbeats 4000000 in
set_option maxRecDepth 100000 in
theorem c_J6_numberOfTrailingZeros_0f7a4 (l : Launch) (D : va_G) (cI cC cZ : ClassId) (p0 : Int32) (sz : Nat) (post : Int32 → Prop) (hw : w_J6_numberOfTrailingZeros_0f7a4 post p0) : Met l yJ6_numberOfTrailingZeros_0f7a4 v_J6_numberOfTrailingZeros_0f7a4 ({ frames := 0, cells := 0, slots := 0, locals := 0 } : Room) (va_Pc [.int p0] (zPre D (zT cI cC cZ) sz (cw_J6_numberOfTrailingZeros_0f7a4))) (q_J6_numberOfTrailingZeros_0f7a4 D post (va_A (cw_J6_numberOfTrailingZeros_0f7a4) sz)) 0 0 (va_A (cw_J6_numberOfTrailingZeros_0f7a4) sz) := by
  refine Met.ofW (cc := cJ6_numberOfTrailingZeros_0f7a4) (maxL := 2) (ret := (some .int)) (by decide) rfl ?_
  intro p e s m args below meth c s₁ B hml hv
  obtain ⟨rfl, hsz, hP, hK, hD0⟩ := hv
  subst hsz
  have hx := B.exec
  have hb := B.bytes
  have hr := B.returns
  have hz : ∀ w ∈ zB, w.before _ s = true := fun w h => atoms_spec (ws := v_J6_numberOfTrailingZeros_0f7a4) B.pre w (List.mem_cons_of_mem _ h)
  have hown : s.vm.findClass RJ6 = some m.cls := findClass_of_methodNamed B.named
  have hlocks := B.notSynchronized
  have hF : CallFix p m c cJ6_numberOfTrailingZeros_0f7a4 2 s (([.int p0] : List Value).toArray) zB RJ6 := ⟨hx, hb, hml, hown, hz⟩
  have hD := hD0.self (sz := s.heap.size)
  generalize hAe : va_A (cw_J6_numberOfTrailingZeros_0f7a4) s.heap.size = A at hD ⊢
  have hA : ∀ q : Nat, s.heap.size ≤ q → A q := fun q h => by rw [← hAe]; exact Or.inr h
  have hS : va_S A s.heap s.heap [] := va_S.rf
  have hP : va_P D vwCl (cw_J6_numberOfTrailingZeros_0f7a4) s.heap := hP
  have hl := lv_entry ([.int p0]) (n := 2) (Nat.le_of_ble_eq_true rfl)
  rw [lg_entry_eq]
  generalize (lg_sl ([.int p0]) ++ List.replicate (2 - (lg_sl ([.int p0])).length) Slot.unset).toArray = ls at hl ⊢
  have hl : lv_has ls 2 [(0, .int p0)] := hl
  have J74 : ∀ (x0 : Int32) (x1 : Int32) (H : Heap) (locs : List Loc) (ls : Array Slot) (hw : w_J6_numberOfTrailingZeros_0f7a4_B74 post x0 x1) (hP : va_P D vwCl (cw_J6_numberOfTrailingZeros_0f7a4) H) (hD : va_D A (cw_J6_numberOfTrailingZeros_0f7a4)) (hS : va_S A s.heap H locs) (hl : lv_has ls 2 [(0, .int x0), (1, .int x1)]), W p l e (headSpec v_J6_numberOfTrailingZeros_0f7a4 ({ frames := 0, cells := 0, slots := 0, locals := 0 } : Room)).room s m (([.int p0] : List Value).toArray) below meth c H locs 0 0 (MQ below (q_J6_numberOfTrailingZeros_0f7a4 D post A) (([.int p0] : List Value).toArray) s 0 0 A) (F0 m 74 ls []) := by
    intro x0 x1 H locs ls hw hP hD hS hl
    unfold w_J6_numberOfTrailingZeros_0f7a4_B74 at hw
    refine lv_iload_n hx hb dJ6_numberOfTrailingZeros_0f7a4_74 rfl (lv_at hl 1 rfl) ?_
    refine lv_iload_n hx hb dJ6_numberOfTrailingZeros_0f7a4_75 rfl (lv_at hl 0 rfl) ?_
    refine lv_iconst (v := (1 : Int32)) hx hb dJ6_numberOfTrailingZeros_0f7a4_76 (by decide) ?_
    refine lv_iushr (v := (x0.toUInt32 >>> ((1 : Int32).toUInt32 &&& Int32.toUInt32 31)).toInt32) hx hb dJ6_numberOfTrailingZeros_0f7a4_77 rfl ?_
    refine lv_iadd hx hb dJ6_numberOfTrailingZeros_0f7a4_78 ?_
    exact z_iret hx hb hr hlocks () hw hP hS dJ6_numberOfTrailingZeros_0f7a4_79
  have J62 : ∀ (x0 : Int32) (x1 : Int32) (H : Heap) (locs : List Loc) (ls : Array Slot) (hw : w_J6_numberOfTrailingZeros_0f7a4_B62 post x0 x1) (hP : va_P D vwCl (cw_J6_numberOfTrailingZeros_0f7a4) H) (hD : va_D A (cw_J6_numberOfTrailingZeros_0f7a4)) (hS : va_S A s.heap H locs) (hl : lv_has ls 2 [(0, .int x0), (1, .int x1)]), W p l e (headSpec v_J6_numberOfTrailingZeros_0f7a4 ({ frames := 0, cells := 0, slots := 0, locals := 0 } : Room)).room s m (([.int p0] : List Value).toArray) below meth c H locs 0 0 (MQ below (q_J6_numberOfTrailingZeros_0f7a4 D post A) (([.int p0] : List Value).toArray) s 0 0 A) (F0 m 62 ls []) := by
    intro x0 x1 H locs ls hw hP hD hS hl
    unfold w_J6_numberOfTrailingZeros_0f7a4_B62 at hw
    refine lv_iload_n hx hb dJ6_numberOfTrailingZeros_0f7a4_62 rfl (lv_at hl 0 rfl) ?_
    refine lv_iconst (v := (4 : Int32)) hx hb dJ6_numberOfTrailingZeros_0f7a4_63 (by decide) ?_
    refine lv_icmp_le (tgt := 74) hx hb dJ6_numberOfTrailingZeros_0f7a4_64 (by decide) (fun c64 => ?_) (fun c64 => ?_)
    · have hw := hw.1 c64
      exact J74 x0 x1 _ _ _ hw hP hD hS (lv_sub hl [0, 1] rfl)
    have hw := hw.2 c64
    refine lv_iinc (k := 1) (v := (x1 + 2)) (lv' := [(1, .int (x1 + 2)), (0, .int x0)]) hx hb dJ6_numberOfTrailingZeros_0f7a4_67 hl rfl rfl (by decide) rfl (fun ls hl => ?_)
    refine lv_iload_n hx hb dJ6_numberOfTrailingZeros_0f7a4_70 rfl (lv_at hl 1 rfl) ?_
    refine lv_iconst (v := (2 : Int32)) hx hb dJ6_numberOfTrailingZeros_0f7a4_71 (by decide) ?_
    refine lv_iushr (v := (x0.toUInt32 >>> ((2 : Int32).toUInt32 &&& Int32.toUInt32 31)).toInt32) hx hb dJ6_numberOfTrailingZeros_0f7a4_72 rfl ?_
    refine lv_topi (fun y73 ey73 => ?_)
    have hw := hw y73 ey73
    refine lv_istore_n (lv' := [(0, .int y73), (1, .int (x1 + 2))]) hx hb dJ6_numberOfTrailingZeros_0f7a4_73 rfl hl (by decide) rfl (fun ls hl => ?_)
    exact J74 y73 (x1 + 2) _ _ _ hw hP hD hS (lv_sub hl [0, 1] rfl)
  have J49 : ∀ (x0 : Int32) (x1 : Int32) (H : Heap) (locs : List Loc) (ls : Array Slot) (hw : w_J6_numberOfTrailingZeros_0f7a4_B49 post x0 x1) (hP : va_P D vwCl (cw_J6_numberOfTrailingZeros_0f7a4) H) (hD : va_D A (cw_J6_numberOfTrailingZeros_0f7a4)) (hS : va_S A s.heap H locs) (hl : lv_has ls 2 [(0, .int x0), (1, .int x1)]), W p l e (headSpec v_J6_numberOfTrailingZeros_0f7a4 ({ frames := 0, cells := 0, slots := 0, locals := 0 } : Room)).room s m (([.int p0] : List Value).toArray) below meth c H locs 0 0 (MQ below (q_J6_numberOfTrailingZeros_0f7a4 D post A) (([.int p0] : List Value).toArray) s 0 0 A) (F0 m 49 ls []) := by
    intro x0 x1 H locs ls hw hP hD hS hl
    unfold w_J6_numberOfTrailingZeros_0f7a4_B49 at hw
    refine lv_iload_n hx hb dJ6_numberOfTrailingZeros_0f7a4_49 rfl (lv_at hl 0 rfl) ?_
    refine lv_bipush (v := (16 : Int32)) hx hb dJ6_numberOfTrailingZeros_0f7a4_50 (by decide) ?_
    refine lv_icmp_le (tgt := 62) hx hb dJ6_numberOfTrailingZeros_0f7a4_52 (by decide) (fun c52 => ?_) (fun c52 => ?_)
    · have hw := hw.1 c52
      exact J62 x0 x1 _ _ _ hw hP hD hS (lv_sub hl [0, 1] rfl)
    have hw := hw.2 c52
    refine lv_iinc (k := 1) (v := (x1 + 4)) (lv' := [(1, .int (x1 + 4)), (0, .int x0)]) hx hb dJ6_numberOfTrailingZeros_0f7a4_55 hl rfl rfl (by decide) rfl (fun ls hl => ?_)
    refine lv_iload_n hx hb dJ6_numberOfTrailingZeros_0f7a4_58 rfl (lv_at hl 1 rfl) ?_
    refine lv_iconst (v := (4 : Int32)) hx hb dJ6_numberOfTrailingZeros_0f7a4_59 (by decide) ?_
    refine lv_iushr (v := (x0.toUInt32 >>> ((4 : Int32).toUInt32 &&& Int32.toUInt32 31)).toInt32) hx hb dJ6_numberOfTrailingZeros_0f7a4_60 rfl ?_
    refine lv_topi (fun y61 ey61 => ?_)
    have hw := hw y61 ey61
    refine lv_istore_n (lv' := [(0, .int y61), (1, .int (x1 + 4))]) hx hb dJ6_numberOfTrailingZeros_0f7a4_61 rfl hl (by decide) rfl (fun ls hl => ?_)
    exact J62 y61 (x1 + 4) _ _ _ hw hP hD hS (lv_sub hl [0, 1] rfl)
  have J34 : ∀ (x0 : Int32) (x1 : Int32) (H : Heap) (locs : List Loc) (ls : Array Slot) (hw : w_J6_numberOfTrailingZeros_0f7a4_B34 post x0 x1) (hP : va_P D vwCl (cw_J6_numberOfTrailingZeros_0f7a4) H) (hD : va_D A (cw_J6_numberOfTrailingZeros_0f7a4)) (hS : va_S A s.heap H locs) (hl : lv_has ls 2 [(0, .int x0), (1, .int x1)]), W p l e (headSpec v_J6_numberOfTrailingZeros_0f7a4 ({ frames := 0, cells := 0, slots := 0, locals := 0 } : Room)).room s m (([.int p0] : List Value).toArray) below meth c H locs 0 0 (MQ below (q_J6_numberOfTrailingZeros_0f7a4 D post A) (([.int p0] : List Value).toArray) s 0 0 A) (F0 m 34 ls []) := by
    intro x0 x1 H locs ls hw hP hD hS hl
    unfold w_J6_numberOfTrailingZeros_0f7a4_B34 at hw
    refine lv_iload_n hx hb dJ6_numberOfTrailingZeros_0f7a4_34 rfl (lv_at hl 0 rfl) ?_
    refine lv_sipush (v := (256 : Int32)) hx hb dJ6_numberOfTrailingZeros_0f7a4_35 (by decide) ?_
    refine lv_icmp_le (tgt := 49) hx hb dJ6_numberOfTrailingZeros_0f7a4_38 (by decide) (fun c38 => ?_) (fun c38 => ?_)
    · have hw := hw.1 c38
      exact J49 x0 x1 _ _ _ hw hP hD hS (lv_sub hl [0, 1] rfl)
    have hw := hw.2 c38
    refine lv_iinc (k := 1) (v := (x1 + 8)) (lv' := [(1, .int (x1 + 8)), (0, .int x0)]) hx hb dJ6_numberOfTrailingZeros_0f7a4_41 hl rfl rfl (by decide) rfl (fun ls hl => ?_)
    refine lv_iload_n hx hb dJ6_numberOfTrailingZeros_0f7a4_44 rfl (lv_at hl 1 rfl) ?_
    refine lv_bipush (v := (8 : Int32)) hx hb dJ6_numberOfTrailingZeros_0f7a4_45 (by decide) ?_
    refine lv_iushr (v := (x0.toUInt32 >>> ((8 : Int32).toUInt32 &&& Int32.toUInt32 31)).toInt32) hx hb dJ6_numberOfTrailingZeros_0f7a4_47 rfl ?_
    refine lv_topi (fun y48 ey48 => ?_)
    have hw := hw y48 ey48
    refine lv_istore_n (lv' := [(0, .int y48), (1, .int (x1 + 8))]) hx hb dJ6_numberOfTrailingZeros_0f7a4_48 rfl hl (by decide) rfl (fun ls hl => ?_)
    exact J49 y48 (x1 + 8) _ _ _ hw hP hD hS (lv_sub hl [0, 1] rfl)
  unfold w_J6_numberOfTrailingZeros_0f7a4 at hw
  refine lv_iload_n hx hb dJ6_numberOfTrailingZeros_0f7a4_0 rfl (lv_at hl 0 rfl) ?_
  refine lv_iconst (v := (-1 : Int32)) hx hb dJ6_numberOfTrailingZeros_0f7a4_1 (by decide) ?_
  refine lv_ixor hx hb dJ6_numberOfTrailingZeros_0f7a4_2 ?_
  refine lv_iload_n hx hb dJ6_numberOfTrailingZeros_0f7a4_3 rfl (lv_at hl 0 rfl) ?_
  refine lv_iconst (v := (1 : Int32)) hx hb dJ6_numberOfTrailingZeros_0f7a4_4 (by decide) ?_
  refine lv_isub hx hb dJ6_numberOfTrailingZeros_0f7a4_5 ?_
  refine lv_iand hx hb dJ6_numberOfTrailingZeros_0f7a4_6 ?_
  refine lv_topi (fun y7 ey7 => ?_)
  have hw := hw y7 ey7
  refine lv_istore_n (lv' := [(0, .int y7)]) hx hb dJ6_numberOfTrailingZeros_0f7a4_7 rfl hl (by decide) rfl (fun ls hl => ?_)
  refine lv_iload_n hx hb dJ6_numberOfTrailingZeros_0f7a4_8 rfl (lv_at hl 0 rfl) ?_
  refine lv_if_gt (tgt := 17) hx hb dJ6_numberOfTrailingZeros_0f7a4_9 (by decide) (fun c9 => ?_) (fun c9 => ?_)
  · have hw := hw.1 c9
    refine lv_iconst (v := (1 : Int32)) hx hb dJ6_numberOfTrailingZeros_0f7a4_17 (by decide) ?_
    refine lv_istore_n (lv' := [(1, .int (1 : Int32)), (0, .int y7)]) hx hb dJ6_numberOfTrailingZeros_0f7a4_18 rfl hl (by decide) rfl (fun ls hl => ?_)
    refine lv_iload_n hx hb dJ6_numberOfTrailingZeros_0f7a4_19 rfl (lv_at hl 1 rfl) ?_
    refine lv_ldcw (v := (65536 : Int32)) hx hb hown (hz _ z2_150) dJ6_numberOfTrailingZeros_0f7a4_20 ?_
    refine lv_icmp_le (tgt := 34) hx hb dJ6_numberOfTrailingZeros_0f7a4_23 (by decide) (fun c23 => ?_) (fun c23 => ?_)
    · have hw := hw.1 c23
      exact J34 y7 (1 : Int32) _ _ _ hw hP hD hS (lv_sub hl [1, 0] rfl)
    have hw := hw.2 c23
    refine lv_iinc (k := 0) (v := ((1 : Int32) + 16)) (lv' := [(1, .int ((1 : Int32) + 16)), (0, .int y7)]) hx hb dJ6_numberOfTrailingZeros_0f7a4_26 hl rfl rfl (by decide) rfl (fun ls hl => ?_)
    refine lv_iload_n hx hb dJ6_numberOfTrailingZeros_0f7a4_29 rfl (lv_at hl 1 rfl) ?_
    refine lv_bipush (v := (16 : Int32)) hx hb dJ6_numberOfTrailingZeros_0f7a4_30 (by decide) ?_
    refine lv_iushr (v := (y7.toUInt32 >>> ((16 : Int32).toUInt32 &&& Int32.toUInt32 31)).toInt32) hx hb dJ6_numberOfTrailingZeros_0f7a4_32 rfl ?_
    refine lv_topi (fun y33 ey33 => ?_)
    have hw := hw y33 ey33
    refine lv_istore_n (lv' := [(0, .int y33), (1, .int ((1 : Int32) + 16))]) hx hb dJ6_numberOfTrailingZeros_0f7a4_33 rfl hl (by decide) rfl (fun ls hl => ?_)
    exact J34 y33 ((1 : Int32) + 16) _ _ _ hw hP hD hS (lv_sub hl [0, 1] rfl)
  have hw := hw.2 c9
  refine lv_iload_n hx hb dJ6_numberOfTrailingZeros_0f7a4_12 rfl (lv_at hl 0 rfl) ?_
  refine lv_bipush (v := (32 : Int32)) hx hb dJ6_numberOfTrailingZeros_0f7a4_13 (by decide) ?_
  refine lv_iand hx hb dJ6_numberOfTrailingZeros_0f7a4_15 ?_
  exact z_iret hx hb hr hlocks () hw hP hS dJ6_numberOfTrailingZeros_0f7a4_16
abbrev cw_X3_noteOff (h : Nat) (g_court g_reason : Value) (f_acts : Int32) (f_firstOffAct : Int32) (f_firstOffWitness : Int32) : va_W := [(h, .inr (3, [g_court, .int f_acts, g_reason, .int f_firstOffAct, .int f_firstOffWitness]))]
abbrev q_X3_noteOff (D : va_G) (h : Nat) (g_court g_reason : Value) (post : Int32 → Int32 → Prop) (f_acts : Int32) (A : Nat → Prop) : Array Value → State → Outcome → State → Prop := va_Qv (S := Int32 × Int32) (fun u => post u.1 u.2) (fun u t => va_P D vwCl (cw_X3_noteOff h g_court g_reason f_acts u.1 u.2) t.heap) A
abbrev v_X3_noteOff : List Cond := .code yX3_noteOff cX3_noteOff 2 none :: zB
theorem hd_X3_noteOff : yX3_noteOff.cls = RX3 ∧ yX3_noteOff.cls ≠ "java/lang/invoke/MethodHandle" ∧ yX3_noteOff.cls ≠ "java/lang/invoke/VarHandle" ∧ (parseMethodDescriptor yX3_noteOff.desc).map (fun d => d.parameters.length) = some 1 := by decide +kernel
set_option maxHeartbeats 4000000 in
set_option maxRecDepth 100000 in
theorem c_X3_noteOff (l : Launch) (D : va_G) (cI cC cZ : ClassId) (h : Nat) (g_court g_reason : Value) (f_acts : Int32) (f_firstOffAct : Int32) (f_firstOffWitness : Int32) (p1 : Int32) (sz : Nat) (post : Int32 → Int32 → Prop) (hw : w_X3_noteOff post f_acts f_firstOffAct f_firstOffWitness p1) : Met l yX3_noteOff v_X3_noteOff ({ frames := 1, cells := 0, slots := 0, locals := 21 } : Room) (va_Pc [.ref h, .int p1] (zPre D (zT cI cC cZ) sz (cw_X3_noteOff h g_court g_reason f_acts f_firstOffAct f_firstOffWitness))) (q_X3_noteOff D h g_court g_reason post f_acts (va_A (cw_X3_noteOff h g_court g_reason f_acts f_firstOffAct f_firstOffWitness) sz)) 0 0 (va_A (cw_X3_noteOff h g_court g_reason f_acts f_firstOffAct f_firstOffWitness) sz) := by
  refine Met.ofW (cc := cX3_noteOff) (maxL := 2) (ret := none) (by decide) rfl ?_
  intro p e s m args below meth c s₁ B hml hv
  obtain ⟨rfl, hsz, hP, hK, hD0⟩ := hv
  subst hsz
  have hx := B.exec
  have hb := B.bytes
  have hr := B.returns
  have hz : ∀ w ∈ zB, w.before _ s = true := fun w h => atoms_spec (ws := v_X3_noteOff) B.pre w (List.mem_cons_of_mem _ h)
  have hown : s.vm.findClass RX3 = some m.cls := findClass_of_methodNamed B.named
  have hlocks := B.notSynchronized
  have hF : CallFix p m c cX3_noteOff 2 s (([.ref h, .int p1] : List Value).toArray) zB RX3 := ⟨hx, hb, hml, hown, hz⟩
  have hD := hD0.self (sz := s.heap.size)
  generalize hAe : va_A (cw_X3_noteOff h g_court g_reason f_acts f_firstOffAct f_firstOffWitness) s.heap.size = A at hD ⊢
  have hA : ∀ q : Nat, s.heap.size ≤ q → A q := fun q h => by rw [← hAe]; exact Or.inr h
  have hS : va_S A s.heap s.heap [] := va_S.rf
  have hP : va_P D vwCl (cw_X3_noteOff h g_court g_reason f_acts f_firstOffAct f_firstOffWitness) s.heap := hP
  have hl := lv_entry ([.ref h, .int p1]) (n := 2) (Nat.le_of_ble_eq_true rfl)
  rw [lg_entry_eq]
  generalize (lg_sl ([.ref h, .int p1]) ++ List.replicate (2 - (lg_sl ([.ref h, .int p1])).length) Slot.unset).toArray = ls at hl ⊢
  have hl : lv_has ls 2 [(0, .ref h), (1, .int p1)] := hl
  unfold w_X3_noteOff at hw
  refine lv_iload_n hx hb dX3_noteOff_0 rfl (lv_at hl 1 rfl) ?_
  refine lv_if_eq (tgt := 13) hx hb dX3_noteOff_1 (by decide) (fun c1 => ?_) (fun c1 => ?_)
  · have hw := hw.1 c1
    exact z_vret hx hb hr hlocks (f_firstOffAct, f_firstOffWitness) hw hP hS dX3_noteOff_13
  have hw := hw.2 c1
  refine lv_aload_n hx hb dX3_noteOff_4 rfl (lv_at hl 0 rfl) ?_
  refine va_get (D := D) (ci := 3) (v := .int f_firstOffAct) (C := RX3) (T := TX3) (N := 5) hx hb hz hX_X3 hown hK.1 hP 0 rfl rfl 3 (by decide) (hz _ z1_141) (fun _ h9 => h9) rfl dX3_noteOff_5 ?_
  refine lv_bipush (v := (-6 : Int32)) hx hb dX3_noteOff_8 (by decide) ?_
  refine lv_icmp_eq (tgt := 14) hx hb dX3_noteOff_10 (by decide) (fun c10 => ?_) (fun c10 => ?_)
  · have hw := hw.1 c10
    refine lv_aload_n hx hb dX3_noteOff_14 rfl (lv_at hl 0 rfl) ?_
    refine lv_aload_n hx hb dX3_noteOff_15 rfl (lv_at hl 0 rfl) ?_
    refine va_get (D := D) (ci := 3) (v := .int f_acts) (C := RX3) (T := TX3) (N := 5) hx hb hz hX_X3 hown hK.1 hP 0 rfl rfl 1 (by decide) (hz _ z1_137) (fun _ h9 => h9) rfl dX3_noteOff_16 ?_
    refine va_put (D := D) (ci := 3) (v := .int f_acts) (ty := .int) (C := RX3) (T := TX3) (N := 5) hx hb hz hX_X3 tyX3 tyX3_ok nmX3 hown hK.1 hP hD hS 0 rfl rfl 3 (by decide) (hz _ z1_141) (fun _ h9 => h9) rfl (tyX3_ok 3 (by decide)) rfl rfl (Nat.le_of_ble_eq_true rfl) dX3_noteOff_19 (fun H locs hP hD hS => ?_)
    have hP : va_P D vwCl (cw_X3_noteOff h g_court g_reason f_acts f_acts f_firstOffWitness) H := hP
    have hD : va_D A (cw_X3_noteOff h g_court g_reason f_acts f_acts f_firstOffWitness) := hD
    refine lv_aload_n hx hb dX3_noteOff_22 rfl (lv_at hl 0 rfl) ?_
    refine lv_iload_n hx hb dX3_noteOff_23 rfl (lv_at hl 1 rfl) ?_
    refine z_ri (z_runS (As := [.int p1]) (rest := [.ref h]) hF (c_J6_numberOfTrailingZeros_0f7a4 l D cI cC cZ p1 _ _ hw) (va_cwS 1 hz (z_gS z2_147 z2_148 z1_11 z2_149) rfl rfl rfl hd_J6_numberOfTrailingZeros_0f7a4 ⟨Nat.le_of_ble_eq_true rfl, Nat.le_of_ble_eq_true rfl⟩) hK hP hD [] rfl rfl rfl hl.1 rfl (Nat.le_of_ble_eq_true rfl) dX3_noteOff_24 ⟨Nat.zero_le _, Nat.zero_le _⟩) hP hD hS hA [] rfl (fun _ => rfl) (fun _ => cw_X3_noteOff h g_court g_reason f_acts f_acts f_firstOffWitness) (fun _ => rfl) (fun r24 u24 H locs hw hP hD hS => ?_)
    try dsimp only at hw
    refine va_put (D := D) (ci := 3) (v := .int r24) (ty := .int) (C := RX3) (T := TX3) (N := 5) hx hb hz hX_X3 tyX3 tyX3_ok nmX3 hown hK.1 hP hD hS 0 rfl rfl 4 (by decide) (hz _ z1_143) (fun _ h9 => h9) rfl (tyX3_ok 4 (by decide)) rfl rfl (Nat.le_of_ble_eq_true rfl) dX3_noteOff_27 (fun H locs hP hD hS => ?_)
    have hP : va_P D vwCl (cw_X3_noteOff h g_court g_reason f_acts f_acts r24) H := hP
    have hD : va_D A (cw_X3_noteOff h g_court g_reason f_acts f_acts r24) := hD
    exact z_vret hx hb hr hlocks (f_acts, r24) hw hP hS dX3_noteOff_30
  have hw := hw.2 c10
  exact z_vret hx hb hr hlocks (f_firstOffAct, f_firstOffWitness) hw hP hS dX3_noteOff_13
abbrev cw_X3_take (cI : ClassId) (h h_court h_court_places h_court_creams : Nat) (f_court_places : Nat → Int32) (f_court_creams : Nat → Int32) (f_court_present : Int32) (f_court_lying : Int32) (f_court_his : Int32) (f_court_power : Int32) (f_court_spite : Int32) (f_court_hour : Int32) (f_acts : Int32) (f_reason : Int32) (f_firstOffAct : Int32) (f_firstOffWitness : Int32) : va_W := [(h, .inr (3, [.ref h_court, .int f_acts, .int f_reason, .int f_firstOffAct, .int f_firstOffWitness])), (h_court, .inr (1, [.ref h_court_places, .ref h_court_creams, .int f_court_present, .int f_court_lying, .int f_court_his, .int f_court_power, .int f_court_spite, .int f_court_hour])), (h_court_places, .inl (cI, 8, .inl f_court_places)), (h_court_creams, .inl (cI, 8, .inl f_court_creams))]
abbrev q_X3_take (D : va_G) (cI : ClassId) (h h_court h_court_places h_court_creams : Nat) (post : (Nat → Int32) → Int32 → Int32 → Int32 → Int32 → Int32 → Int32 → Int32 → Int32 → Prop) (f_court_places : Nat → Int32) (f_court_power : Int32) (f_court_spite : Int32) (A : Nat → Prop) : Array Value → State → Outcome → State → Prop := va_Qv (S := (Nat → Int32) × Int32 × Int32 × Int32 × Int32 × Int32 × Int32 × Int32 × Int32) (fun u => post u.1 u.2.1 u.2.2.1 u.2.2.2.1 u.2.2.2.2.1 u.2.2.2.2.2.1 u.2.2.2.2.2.2.1 u.2.2.2.2.2.2.2.1 u.2.2.2.2.2.2.2.2) (fun u t => va_P D vwCl (cw_X3_take cI h h_court h_court_places h_court_creams f_court_places u.1 u.2.1 u.2.2.1 u.2.2.2.1 f_court_power f_court_spite u.2.2.2.2.1 u.2.2.2.2.2.1 u.2.2.2.2.2.2.1 u.2.2.2.2.2.2.2.1 u.2.2.2.2.2.2.2.2) t.heap) A
abbrev v_X3_take : List Cond := .code yX3_take cX3_take 4 none :: zB
theorem hd_X3_take : yX3_take.cls = RX3 ∧ yX3_take.cls ≠ "java/lang/invoke/MethodHandle" ∧ yX3_take.cls ≠ "java/lang/invoke/VarHandle" ∧ (parseMethodDescriptor yX3_take.desc).map (fun d => d.parameters.length) = some 2 := by decide +kernel
set_option maxHeartbeats 4000000 in
set_option maxRecDepth 100000 in
theorem c_X3_take (l : Launch) (D : va_G) (cI cC cZ : ClassId) (h h_court h_court_places h_court_creams : Nat) (f_court_places : Nat → Int32) (f_court_creams : Nat → Int32) (f_court_present : Int32) (f_court_lying : Int32) (f_court_his : Int32) (f_court_power : Int32) (f_court_spite : Int32) (f_court_hour : Int32) (f_acts : Int32) (f_reason : Int32) (f_firstOffAct : Int32) (f_firstOffWitness : Int32) (p1 : Int32) (p2 : Int32) (sz : Nat) (post : (Nat → Int32) → Int32 → Int32 → Int32 → Int32 → Int32 → Int32 → Int32 → Int32 → Prop) (hw : w_X3_take post f_court_places f_court_creams f_court_present f_court_lying f_court_his f_court_power f_court_spite f_court_hour f_acts f_reason f_firstOffAct f_firstOffWitness p1 p2) : Met l yX3_take v_X3_take ({ frames := 5, cells := 0, slots := 0, locals := 115 } : Room) (va_Pc [.ref h, .int p1, .int p2] (zPre D (zT cI cC cZ) sz (cw_X3_take cI h h_court h_court_places h_court_creams f_court_places f_court_creams f_court_present f_court_lying f_court_his f_court_power f_court_spite f_court_hour f_acts f_reason f_firstOffAct f_firstOffWitness))) (q_X3_take D cI h h_court h_court_places h_court_creams post f_court_places f_court_power f_court_spite (va_A (cw_X3_take cI h h_court h_court_places h_court_creams f_court_places f_court_creams f_court_present f_court_lying f_court_his f_court_power f_court_spite f_court_hour f_acts f_reason f_firstOffAct f_firstOffWitness) sz)) 0 0 (va_A (cw_X3_take cI h h_court h_court_places h_court_creams f_court_places f_court_creams f_court_present f_court_lying f_court_his f_court_power f_court_spite f_court_hour f_acts f_reason f_firstOffAct f_firstOffWitness) sz) := by
  refine Met.ofW (cc := cX3_take) (maxL := 4) (ret := none) (by decide) rfl ?_
  intro p e s m args below meth c s₁ B hml hv
  obtain ⟨rfl, hsz, hP, hK, hD0⟩ := hv
  subst hsz
  have hx := B.exec
  have hb := B.bytes
  have hr := B.returns
  have hz : ∀ w ∈ zB, w.before _ s = true := fun w h => atoms_spec (ws := v_X3_take) B.pre w (List.mem_cons_of_mem _ h)
  have hown : s.vm.findClass RX3 = some m.cls := findClass_of_methodNamed B.named
  have hlocks := B.notSynchronized
  have hF : CallFix p m c cX3_take 4 s (([.ref h, .int p1, .int p2] : List Value).toArray) zB RX3 := ⟨hx, hb, hml, hown, hz⟩
  have hD := hD0.self (sz := s.heap.size)
  generalize hAe : va_A (cw_X3_take cI h h_court h_court_places h_court_creams f_court_places f_court_creams f_court_present f_court_lying f_court_his f_court_power f_court_spite f_court_hour f_acts f_reason f_firstOffAct f_firstOffWitness) s.heap.size = A at hD ⊢
  have hA : ∀ q : Nat, s.heap.size ≤ q → A q := fun q h => by rw [← hAe]; exact Or.inr h
  have hS : va_S A s.heap s.heap [] := va_S.rf
  have hP : va_P D vwCl (cw_X3_take cI h h_court h_court_places h_court_creams f_court_places f_court_creams f_court_present f_court_lying f_court_his f_court_power f_court_spite f_court_hour f_acts f_reason f_firstOffAct f_firstOffWitness) s.heap := hP
  have hl := lv_entry ([.ref h, .int p1, .int p2]) (n := 4) (Nat.le_of_ble_eq_true rfl)
  rw [lg_entry_eq]
  generalize (lg_sl ([.ref h, .int p1, .int p2]) ++ List.replicate (4 - (lg_sl ([.ref h, .int p1, .int p2])).length) Slot.unset).toArray = ls at hl ⊢
  have hl : lv_has ls 4 [(0, .ref h), (1, .int p1), (2, .int p2)] := hl
  unfold w_X3_take at hw
  refine lv_aload_n hx hb dX3_take_0 rfl (lv_at hl 0 rfl) ?_
  refine lv_aload_n hx hb dX3_take_1 rfl (lv_at hl 0 rfl) ?_
  refine va_get (D := D) (ci := 3) (v := .ref h_court) (C := RX3) (T := TX3) (N := 5) hx hb hz hX_X3 hown hK.1 hP 0 rfl rfl 0 (by decide) (hz _ z1_135) (fun _ h9 => h9) rfl dX3_take_2 ?_
  refine lv_iload_n hx hb dX3_take_5 rfl (lv_at hl 1 rfl) ?_
  refine lv_iload_n hx hb dX3_take_6 rfl (lv_at hl 2 rfl) ?_
  refine z_ri (z_runV (As := [.int p1, .int p2]) (rest := [.ref h]) hF (c_X1_whyNot l D cI cC cZ h_court h_court_places h_court_creams (.int f_court_lying) (.int f_court_power) (.int f_court_spite) f_court_places f_court_creams f_court_present f_court_his f_court_hour p1 p2 _ _ hw) (cwV 2 hz (z_gV z2_85 z2_86 z2_87 z1_3 z2_88) rfl rfl rfl hd_X1_whyNot ⟨Nat.le_of_ble_eq_true rfl, Nat.le_of_ble_eq_true rfl⟩) hK hP hD [1, 2, 3] rfl rfl 1 1 rfl rfl rfl rfl hl.1 rfl (Nat.le_of_ble_eq_true rfl) dX3_take_7 ⟨Nat.zero_le _, Nat.zero_le _⟩) hP hD hS hA [1, 2, 3] rfl (fun _ => rfl) (fun _ => cw_X3_take cI h h_court h_court_places h_court_creams f_court_places f_court_creams f_court_present f_court_lying f_court_his f_court_power f_court_spite f_court_hour f_acts f_reason f_firstOffAct f_firstOffWitness) (fun _ => rfl) (fun r7 u7 H locs hw hP hD hS => ?_)
  try dsimp only at hw
  refine va_put (D := D) (ci := 3) (v := .int r7) (ty := .int) (C := RX3) (T := TX3) (N := 5) hx hb hz hX_X3 tyX3 tyX3_ok nmX3 hown hK.1 hP hD hS 0 rfl rfl 2 (by decide) (hz _ z1_139) (fun _ h9 => h9) rfl (tyX3_ok 2 (by decide)) rfl rfl (Nat.le_of_ble_eq_true rfl) dX3_take_10 (fun H locs hP hD hS => ?_)
  have hP : va_P D vwCl (cw_X3_take cI h h_court h_court_places h_court_creams f_court_places f_court_creams f_court_present f_court_lying f_court_his f_court_power f_court_spite f_court_hour f_acts r7 f_firstOffAct f_firstOffWitness) H := hP
  have hD : va_D A (cw_X3_take cI h h_court h_court_places h_court_creams f_court_places f_court_creams f_court_present f_court_lying f_court_his f_court_power f_court_spite f_court_hour f_acts r7 f_firstOffAct f_firstOffWitness) := hD
  refine lv_aload_n hx hb dX3_take_13 rfl (lv_at hl 0 rfl) ?_
  refine va_get (D := D) (ci := 3) (v := .int r7) (C := RX3) (T := TX3) (N := 5) hx hb hz hX_X3 hown hK.1 hP 0 rfl rfl 2 (by decide) (hz _ z1_139) (fun _ h9 => h9) rfl dX3_take_14 ?_
  refine lv_if_eq (tgt := 21) hx hb dX3_take_17 (by decide) (fun c17 => ?_) (fun c17 => ?_)
  · have hw := hw.1 c17
    refine lv_aload_n hx hb dX3_take_21 rfl (lv_at hl 0 rfl) ?_
    refine va_get (D := D) (ci := 3) (v := .ref h_court) (C := RX3) (T := TX3) (N := 5) hx hb hz hX_X3 hown hK.1 hP 0 rfl rfl 0 (by decide) (hz _ z1_135) (fun _ h9 => h9) rfl dX3_take_22 ?_
    refine z_ri (z_runV (As := []) (rest := []) hF (c_X1_offOnes l D cI cC cZ h_court h_court_creams (.ref h_court_places) (.int f_court_lying) (.int f_court_his) (.int f_court_power) (.int f_court_spite) (.int f_court_hour) f_court_creams f_court_present _ _ hw) (cwV 0 hz (z_gV z2_109 z2_110 z2_111 z1_3 z2_112) rfl rfl rfl hd_X1_offOnes ⟨Nat.le_of_ble_eq_true rfl, Nat.le_of_ble_eq_true rfl⟩) hK hP hD [1, 3] rfl rfl 1 1 rfl rfl rfl rfl hl.1 rfl (Nat.le_of_ble_eq_true rfl) dX3_take_25 ⟨Nat.zero_le _, Nat.zero_le _⟩) hP hD hS hA [1, 3] rfl (fun _ => rfl) (fun _ => cw_X3_take cI h h_court h_court_places h_court_creams f_court_places f_court_creams f_court_present f_court_lying f_court_his f_court_power f_court_spite f_court_hour f_acts r7 f_firstOffAct f_firstOffWitness) (fun _ => rfl) (fun r25 u25 H locs hw hP hD hS => ?_)
    try dsimp only at hw
    refine lv_istore_n (lv' := [(3, .int r25), (0, .ref h), (1, .int p1), (2, .int p2)]) hx hb dX3_take_28 rfl hl (by decide) rfl (fun ls hl => ?_)
    refine lv_aload_n hx hb dX3_take_29 rfl (lv_at hl 1 rfl) ?_
    refine va_get (D := D) (ci := 3) (v := .ref h_court) (C := RX3) (T := TX3) (N := 5) hx hb hz hX_X3 hown hK.1 hP 0 rfl rfl 0 (by decide) (hz _ z1_135) (fun _ h9 => h9) rfl dX3_take_30 ?_
    refine lv_iload_n hx hb dX3_take_33 rfl (lv_at hl 2 rfl) ?_
    refine lv_iload_n hx hb dX3_take_34 rfl (lv_at hl 3 rfl) ?_
    refine z_rv (z_runV (As := [.int p1, .int p2]) (rest := []) hF (c_X1_act l D cI cC cZ h_court h_court_places h_court_creams f_court_places f_court_creams f_court_present f_court_lying f_court_his f_court_power f_court_spite f_court_hour p1 p2 _ _ hw) (cwV 2 hz (z_gV z2_113 z2_114 z2_115 z1_3 z2_116) rfl rfl rfl hd_X1_act ⟨Nat.le_of_ble_eq_true rfl, Nat.le_of_ble_eq_true rfl⟩) hK hP hD [1, 2, 3] rfl rfl 1 1 rfl rfl rfl rfl hl.1 rfl (Nat.le_of_ble_eq_true rfl) dX3_take_35 ⟨Nat.zero_le _, Nat.zero_le _⟩) hP hD hS hA [1, 2, 3] rfl (fun _ => rfl) (fun u => cw_X3_take cI h h_court h_court_places h_court_creams f_court_places u.1 u.2.1 u.2.2.1 u.2.2.2.1 f_court_power f_court_spite u.2.2.2.2 f_acts r7 f_firstOffAct f_firstOffWitness) (fun _ => rfl) (fun u35 H locs hw hP hD hS => ?_)
    obtain ⟨u35_0, u35_1, u35_2, u35_3, u35_4⟩ := u35
    try dsimp only at hw
    have hP : va_P D vwCl (cw_X3_take cI h h_court h_court_places h_court_creams f_court_places u35_0 u35_1 u35_2 u35_3 f_court_power f_court_spite u35_4 f_acts r7 f_firstOffAct f_firstOffWitness) H := hP
    have hD : va_D A (cw_X3_take cI h h_court h_court_places h_court_creams f_court_places u35_0 u35_1 u35_2 u35_3 f_court_power f_court_spite u35_4 f_acts r7 f_firstOffAct f_firstOffWitness) := hD
    refine lv_aload_n hx hb dX3_take_38 rfl (lv_at hl 1 rfl) ?_
    refine lv_aload_n hx hb dX3_take_39 rfl (lv_at hl 1 rfl) ?_
    refine va_get (D := D) (ci := 3) (v := .ref h_court) (C := RX3) (T := TX3) (N := 5) hx hb hz hX_X3 hown hK.1 hP 0 rfl rfl 0 (by decide) (hz _ z1_135) (fun _ h9 => h9) rfl dX3_take_40 ?_
    refine z_ri (z_runV (As := []) (rest := [.ref h]) hF (c_X1_offOnes l D cI cC cZ h_court h_court_creams (.ref h_court_places) (.int u35_2) (.int u35_3) (.int f_court_power) (.int f_court_spite) (.int u35_4) u35_0 u35_1 _ _ hw) (cwV 0 hz (z_gV z2_109 z2_110 z2_111 z1_3 z2_112) rfl rfl rfl hd_X1_offOnes ⟨Nat.le_of_ble_eq_true rfl, Nat.le_of_ble_eq_true rfl⟩) hK hP hD [1, 3] rfl rfl 1 1 rfl rfl rfl rfl hl.1 rfl (Nat.le_of_ble_eq_true rfl) dX3_take_43 ⟨Nat.zero_le _, Nat.zero_le _⟩) hP hD hS hA [1, 3] rfl (fun _ => rfl) (fun _ => cw_X3_take cI h h_court h_court_places h_court_creams f_court_places u35_0 u35_1 u35_2 u35_3 f_court_power f_court_spite u35_4 f_acts r7 f_firstOffAct f_firstOffWitness) (fun _ => rfl) (fun r43 u43 H locs hw hP hD hS => ?_)
    try dsimp only at hw
    refine lv_iload_n hx hb dX3_take_46 rfl (lv_at hl 0 rfl) ?_
    refine lv_iconst (v := (-1 : Int32)) hx hb dX3_take_47 (by decide) ?_
    refine lv_ixor hx hb dX3_take_48 ?_
    refine lv_iand hx hb dX3_take_49 ?_
    refine z_rv (z_runV (As := [.int (r43 &&& (r25 ^^^ (-1 : Int32)))]) (rest := []) hF (c_X3_noteOff l D cI cC cZ h (.ref h_court) (.int r7) f_acts f_firstOffAct f_firstOffWitness (r43 &&& (r25 ^^^ (-1 : Int32))) _ _ hw) (cwV 1 hz (z_gV z2_143 z2_145 zp_11 z1_7 z2_146) rfl rfl rfl hd_X3_noteOff ⟨Nat.le_of_ble_eq_true rfl, Nat.le_of_ble_eq_true rfl⟩) hK hP hD [0] rfl rfl 0 3 rfl rfl rfl rfl hl.1 rfl (Nat.le_of_ble_eq_true rfl) dX3_take_50 ⟨Nat.zero_le _, Nat.zero_le _⟩) hP hD hS hA [0] rfl (fun _ => rfl) (fun u => cw_X3_take cI h h_court h_court_places h_court_creams f_court_places u35_0 u35_1 u35_2 u35_3 f_court_power f_court_spite u35_4 f_acts r7 u.1 u.2) (fun _ => rfl) (fun u50 H locs hw hP hD hS => ?_)
    obtain ⟨u50_0, u50_1⟩ := u50
    try dsimp only at hw
    have hP : va_P D vwCl (cw_X3_take cI h h_court h_court_places h_court_creams f_court_places u35_0 u35_1 u35_2 u35_3 f_court_power f_court_spite u35_4 f_acts r7 u50_0 u50_1) H := hP
    have hD : va_D A (cw_X3_take cI h h_court h_court_places h_court_creams f_court_places u35_0 u35_1 u35_2 u35_3 f_court_power f_court_spite u35_4 f_acts r7 u50_0 u50_1) := hD
    refine lv_aload_n hx hb dX3_take_53 rfl (lv_at hl 1 rfl) ?_
    refine lv_dup hx hb dX3_take_54 rfl ?_
    refine va_get (D := D) (ci := 3) (v := .int f_acts) (C := RX3) (T := TX3) (N := 5) hx hb hz hX_X3 hown hK.1 hP 0 rfl rfl 1 (by decide) (hz _ z1_137) (fun _ h9 => h9) rfl dX3_take_55 ?_
    refine lv_iconst (v := (1 : Int32)) hx hb dX3_take_58 (by decide) ?_
    refine lv_iadd hx hb dX3_take_59 ?_
    refine va_put (D := D) (ci := 3) (v := .int (f_acts + (1 : Int32))) (ty := .int) (C := RX3) (T := TX3) (N := 5) hx hb hz hX_X3 tyX3 tyX3_ok nmX3 hown hK.1 hP hD hS 0 rfl rfl 1 (by decide) (hz _ z1_137) (fun _ h9 => h9) rfl (tyX3_ok 1 (by decide)) rfl rfl (Nat.le_of_ble_eq_true rfl) dX3_take_60 (fun H locs hP hD hS => ?_)
    have hP : va_P D vwCl (cw_X3_take cI h h_court h_court_places h_court_creams f_court_places u35_0 u35_1 u35_2 u35_3 f_court_power f_court_spite u35_4 (f_acts + (1 : Int32)) r7 u50_0 u50_1) H := hP
    have hD : va_D A (cw_X3_take cI h h_court h_court_places h_court_creams f_court_places u35_0 u35_1 u35_2 u35_3 f_court_power f_court_spite u35_4 (f_acts + (1 : Int32)) r7 u50_0 u50_1) := hD
    exact z_vret hx hb hr hlocks (u35_0, u35_1, u35_2, u35_3, u35_4, (f_acts + (1 : Int32)), r7, u50_0, u50_1) hw hP hS dX3_take_63
  have hw := hw.2 c17
  exact z_vret hx hb hr hlocks (f_court_creams, f_court_present, f_court_lying, f_court_his, f_court_hour, f_acts, r7, f_firstOffAct, f_firstOffWitness) hw hP hS dX3_take_20
abbrev cw_X3_hear (cI cC : ClassId) (h h_court h_court_places h_court_creams ha1 ha1_places ha1_creams ha2 ha2_signs : Nat) (f_court_places : Nat → Int32) (f_court_creams : Nat → Int32) (f_court_present : Int32) (f_court_lying : Int32) (f_court_his : Int32) (f_court_power : Int32) (f_court_spite : Int32) (f_court_hour : Int32) (f_acts : Int32) (f_reason : Int32) (f_firstOffAct : Int32) (f_firstOffWitness : Int32) (f_a1_places : Nat → Int32) (f_a1_creams : Nat → Int32) (f_a1_present : Int32) (f_a1_lying : Int32) (f_a1_his : Int32) (f_a1_power : Int32) (f_a1_spite : Int32) (f_a1_hour : Int32) (f_a2_signs : Nat → Int32) (f_a2_count : Int32) : va_W := [(h, .inr (3, [.ref h_court, .int f_acts, .int f_reason, .int f_firstOffAct, .int f_firstOffWitness])), (h_court, .inr (1, [.ref h_court_places, .ref h_court_creams, .int f_court_present, .int f_court_lying, .int f_court_his, .int f_court_power, .int f_court_spite, .int f_court_hour])), (h_court_places, .inl (cI, 8, .inl f_court_places)), (h_court_creams, .inl (cI, 8, .inl f_court_creams)), (ha1, .inr (1, [.ref ha1_places, .ref ha1_creams, .int f_a1_present, .int f_a1_lying, .int f_a1_his, .int f_a1_power, .int f_a1_spite, .int f_a1_hour])), (ha1_places, .inl (cI, 8, .inl f_a1_places)), (ha1_creams, .inl (cI, 8, .inl f_a1_creams)), (ha2, .inr (4, [.ref ha2_signs, .int f_a2_count])), (ha2_signs, .inl (cC, 60, .inl f_a2_signs))]
abbrev q_X3_hear (D : va_G) (cI cC : ClassId) (h h_court h_court_places h_court_creams ha1 ha1_places ha1_creams ha2 ha2_signs : Nat) (post : (Nat → Int32) → (Nat → Int32) → Int32 → Int32 → Int32 → Int32 → Int32 → Int32 → Int32 → Int32 → Int32 → Int32 → Prop) (f_a1_places : Nat → Int32) (f_a1_creams : Nat → Int32) (f_a1_present : Int32) (f_a1_lying : Int32) (f_a1_his : Int32) (f_a1_power : Int32) (f_a1_spite : Int32) (f_a1_hour : Int32) (f_a2_signs : Nat → Int32) (f_a2_count : Int32) (A : Nat → Prop) : Array Value → State → Outcome → State → Prop := va_Qv (S := (Nat → Int32) × (Nat → Int32) × Int32 × Int32 × Int32 × Int32 × Int32 × Int32 × Int32 × Int32 × Int32 × Int32) (fun u => post u.1 u.2.1 u.2.2.1 u.2.2.2.1 u.2.2.2.2.1 u.2.2.2.2.2.1 u.2.2.2.2.2.2.1 u.2.2.2.2.2.2.2.1 u.2.2.2.2.2.2.2.2.1 u.2.2.2.2.2.2.2.2.2.1 u.2.2.2.2.2.2.2.2.2.2.1 u.2.2.2.2.2.2.2.2.2.2.2) (fun u t => va_P D vwCl (cw_X3_hear cI cC h h_court h_court_places h_court_creams ha1 ha1_places ha1_creams ha2 ha2_signs u.1 u.2.1 u.2.2.1 u.2.2.2.1 u.2.2.2.2.1 u.2.2.2.2.2.1 u.2.2.2.2.2.2.1 u.2.2.2.2.2.2.2.1 u.2.2.2.2.2.2.2.2.1 u.2.2.2.2.2.2.2.2.2.1 u.2.2.2.2.2.2.2.2.2.2.1 u.2.2.2.2.2.2.2.2.2.2.2 f_a1_places f_a1_creams f_a1_present f_a1_lying f_a1_his f_a1_power f_a1_spite f_a1_hour f_a2_signs f_a2_count) t.heap) A
abbrev v_X3_hear : List Cond := .code yX3_hear cX3_hear 4 none :: zB
theorem hd_X3_hear : yX3_hear.cls = RX3 ∧ yX3_hear.cls ≠ "java/lang/invoke/MethodHandle" ∧ yX3_hear.cls ≠ "java/lang/invoke/VarHandle" ∧ (parseMethodDescriptor yX3_hear.desc).map (fun d => d.parameters.length) = some 2 := by decide +kernel
set_option maxHeartbeats 4000000 in
set_option maxRecDepth 100000 in
theorem c_X3_hear (l : Launch) (D : va_G) (cI cC cZ : ClassId) (h h_court h_court_places h_court_creams ha1 ha1_places ha1_creams ha2 ha2_signs : Nat) (f_court_places : Nat → Int32) (f_court_creams : Nat → Int32) (f_court_present : Int32) (f_court_lying : Int32) (f_court_his : Int32) (f_court_power : Int32) (f_court_spite : Int32) (f_court_hour : Int32) (f_acts : Int32) (f_reason : Int32) (f_firstOffAct : Int32) (f_firstOffWitness : Int32) (f_a1_places : Nat → Int32) (f_a1_creams : Nat → Int32) (f_a1_present : Int32) (f_a1_lying : Int32) (f_a1_his : Int32) (f_a1_power : Int32) (f_a1_spite : Int32) (f_a1_hour : Int32) (f_a2_signs : Nat → Int32) (f_a2_count : Int32) (sz : Nat) (post : (Nat → Int32) → (Nat → Int32) → Int32 → Int32 → Int32 → Int32 → Int32 → Int32 → Int32 → Int32 → Int32 → Int32 → Prop) (hw : w_X3_hear post f_court_places f_court_creams f_court_present f_court_lying f_court_his f_court_power f_court_spite f_court_hour f_acts f_reason f_firstOffAct f_firstOffWitness f_a1_places f_a1_creams f_a1_present f_a1_lying f_a1_his f_a1_power f_a1_spite f_a1_hour f_a2_signs f_a2_count) : Met l yX3_hear v_X3_hear ({ frames := 6, cells := 0, slots := 0, locals := 138 } : Room) (va_Pc [.ref h, .ref ha1, .ref ha2] (zPre D (zT cI cC cZ) sz (cw_X3_hear cI cC h h_court h_court_places h_court_creams ha1 ha1_places ha1_creams ha2 ha2_signs f_court_places f_court_creams f_court_present f_court_lying f_court_his f_court_power f_court_spite f_court_hour f_acts f_reason f_firstOffAct f_firstOffWitness f_a1_places f_a1_creams f_a1_present f_a1_lying f_a1_his f_a1_power f_a1_spite f_a1_hour f_a2_signs f_a2_count))) (q_X3_hear D cI cC h h_court h_court_places h_court_creams ha1 ha1_places ha1_creams ha2 ha2_signs post f_a1_places f_a1_creams f_a1_present f_a1_lying f_a1_his f_a1_power f_a1_spite f_a1_hour f_a2_signs f_a2_count (va_A (cw_X3_hear cI cC h h_court h_court_places h_court_creams ha1 ha1_places ha1_creams ha2 ha2_signs f_court_places f_court_creams f_court_present f_court_lying f_court_his f_court_power f_court_spite f_court_hour f_acts f_reason f_firstOffAct f_firstOffWitness f_a1_places f_a1_creams f_a1_present f_a1_lying f_a1_his f_a1_power f_a1_spite f_a1_hour f_a2_signs f_a2_count) sz)) 0 0 (va_A (cw_X3_hear cI cC h h_court h_court_places h_court_creams ha1 ha1_places ha1_creams ha2 ha2_signs f_court_places f_court_creams f_court_present f_court_lying f_court_his f_court_power f_court_spite f_court_hour f_acts f_reason f_firstOffAct f_firstOffWitness f_a1_places f_a1_creams f_a1_present f_a1_lying f_a1_his f_a1_power f_a1_spite f_a1_hour f_a2_signs f_a2_count) sz) := by
  refine Met.ofW (cc := cX3_hear) (maxL := 4) (ret := none) (by decide) rfl ?_
  intro p e s m args below meth c s₁ B hml hv
  obtain ⟨rfl, hsz, hP, hK, hD0⟩ := hv
  subst hsz
  have hx := B.exec
  have hb := B.bytes
  have hr := B.returns
  have hz : ∀ w ∈ zB, w.before _ s = true := fun w h => atoms_spec (ws := v_X3_hear) B.pre w (List.mem_cons_of_mem _ h)
  have hown : s.vm.findClass RX3 = some m.cls := findClass_of_methodNamed B.named
  have hlocks := B.notSynchronized
  have hF : CallFix p m c cX3_hear 4 s (([.ref h, .ref ha1, .ref ha2] : List Value).toArray) zB RX3 := ⟨hx, hb, hml, hown, hz⟩
  have hD := hD0.self (sz := s.heap.size)
  generalize hAe : va_A (cw_X3_hear cI cC h h_court h_court_places h_court_creams ha1 ha1_places ha1_creams ha2 ha2_signs f_court_places f_court_creams f_court_present f_court_lying f_court_his f_court_power f_court_spite f_court_hour f_acts f_reason f_firstOffAct f_firstOffWitness f_a1_places f_a1_creams f_a1_present f_a1_lying f_a1_his f_a1_power f_a1_spite f_a1_hour f_a2_signs f_a2_count) s.heap.size = A at hD ⊢
  have hA : ∀ q : Nat, s.heap.size ≤ q → A q := fun q h => by rw [← hAe]; exact Or.inr h
  have hS : va_S A s.heap s.heap [] := va_S.rf
  have hP : va_P D vwCl (cw_X3_hear cI cC h h_court h_court_places h_court_creams ha1 ha1_places ha1_creams ha2 ha2_signs f_court_places f_court_creams f_court_present f_court_lying f_court_his f_court_power f_court_spite f_court_hour f_acts f_reason f_firstOffAct f_firstOffWitness f_a1_places f_a1_creams f_a1_present f_a1_lying f_a1_his f_a1_power f_a1_spite f_a1_hour f_a2_signs f_a2_count) s.heap := hP
  have hl := lv_entry ([.ref h, .ref ha1, .ref ha2]) (n := 4) (Nat.le_of_ble_eq_true rfl)
  rw [lg_entry_eq]
  generalize (lg_sl ([.ref h, .ref ha1, .ref ha2]) ++ List.replicate (4 - (lg_sl ([.ref h, .ref ha1, .ref ha2])).length) Slot.unset).toArray = ls at hl ⊢
  have hl : lv_has ls 4 [(0, .ref h), (1, .ref ha1), (2, .ref ha2)] := hl
  have L21 : ∀ (n21 : Nat) (f_court_places : Nat → Int32) (f_court_creams : Nat → Int32) (f_court_present : Int32) (f_court_lying : Int32) (f_court_his : Int32) (f_court_power : Int32) (f_court_spite : Int32) (f_court_hour : Int32) (f_acts : Int32) (f_reason : Int32) (f_firstOffAct : Int32) (f_firstOffWitness : Int32) (x3 : Int32) (H : Heap) (locs : List Loc) (ls : Array Slot) (hw : w_X3_hear_B21 post f_a1_places f_a1_creams f_a1_present f_a1_lying f_a1_his f_a1_power f_a1_spite f_a1_hour f_a2_signs f_a2_count n21 f_court_places f_court_creams f_court_present f_court_lying f_court_his f_court_power f_court_spite f_court_hour f_acts f_reason f_firstOffAct f_firstOffWitness x3) (hP : va_P D vwCl (cw_X3_hear cI cC h h_court h_court_places h_court_creams ha1 ha1_places ha1_creams ha2 ha2_signs f_court_places f_court_creams f_court_present f_court_lying f_court_his f_court_power f_court_spite f_court_hour f_acts f_reason f_firstOffAct f_firstOffWitness f_a1_places f_a1_creams f_a1_present f_a1_lying f_a1_his f_a1_power f_a1_spite f_a1_hour f_a2_signs f_a2_count) H) (hD : va_D A (cw_X3_hear cI cC h h_court h_court_places h_court_creams ha1 ha1_places ha1_creams ha2 ha2_signs f_court_places f_court_creams f_court_present f_court_lying f_court_his f_court_power f_court_spite f_court_hour f_acts f_reason f_firstOffAct f_firstOffWitness f_a1_places f_a1_creams f_a1_present f_a1_lying f_a1_his f_a1_power f_a1_spite f_a1_hour f_a2_signs f_a2_count)) (hS : va_S A s.heap H locs) (hl : lv_has ls 4 [(0, .ref h), (2, .ref ha2), (3, .int x3)]), W p l e (headSpec v_X3_hear ({ frames := 6, cells := 0, slots := 0, locals := 138 } : Room)).room s m (([.ref h, .ref ha1, .ref ha2] : List Value).toArray) below meth c H locs 0 0 (MQ below (q_X3_hear D cI cC h h_court h_court_places h_court_creams ha1 ha1_places ha1_creams ha2 ha2_signs post f_a1_places f_a1_creams f_a1_present f_a1_lying f_a1_his f_a1_power f_a1_spite f_a1_hour f_a2_signs f_a2_count A) (([.ref h, .ref ha1, .ref ha2] : List Value).toArray) s 0 0 A) (F0 m 21 ls []) := by
    intro n21
    induction n21 with
    | zero => intro f_court_places f_court_creams f_court_present f_court_lying f_court_his f_court_power f_court_spite f_court_hour f_acts f_reason f_firstOffAct f_firstOffWitness x3 H locs ls hw; exact False.elim hw
    | succ n21 ih21 =>
      have J64 : ∀ (f_court_places : Nat → Int32) (f_court_creams : Nat → Int32) (f_court_present : Int32) (f_court_lying : Int32) (f_court_his : Int32) (f_court_power : Int32) (f_court_spite : Int32) (f_court_hour : Int32) (f_acts : Int32) (f_reason : Int32) (f_firstOffAct : Int32) (f_firstOffWitness : Int32) (s0 : Int32) (s1 : Int32) (H : Heap) (locs : List Loc) (ls : Array Slot) (hw : w_X3_hear_B64 post f_a1_places f_a1_creams f_a1_present f_a1_lying f_a1_his f_a1_power f_a1_spite f_a1_hour f_a2_signs f_a2_count (fun f_court_places f_court_creams f_court_present f_court_lying f_court_his f_court_power f_court_spite f_court_hour f_acts f_reason f_firstOffAct f_firstOffWitness x3 => w_X3_hear_B21 post f_a1_places f_a1_creams f_a1_present f_a1_lying f_a1_his f_a1_power f_a1_spite f_a1_hour f_a2_signs f_a2_count n21 f_court_places f_court_creams f_court_present f_court_lying f_court_his f_court_power f_court_spite f_court_hour f_acts f_reason f_firstOffAct f_firstOffWitness x3) f_court_places f_court_creams f_court_present f_court_lying f_court_his f_court_power f_court_spite f_court_hour f_acts f_reason f_firstOffAct f_firstOffWitness s0 s1) (hP : va_P D vwCl (cw_X3_hear cI cC h h_court h_court_places h_court_creams ha1 ha1_places ha1_creams ha2 ha2_signs f_court_places f_court_creams f_court_present f_court_lying f_court_his f_court_power f_court_spite f_court_hour f_acts f_reason f_firstOffAct f_firstOffWitness f_a1_places f_a1_creams f_a1_present f_a1_lying f_a1_his f_a1_power f_a1_spite f_a1_hour f_a2_signs f_a2_count) H) (hD : va_D A (cw_X3_hear cI cC h h_court h_court_places h_court_creams ha1 ha1_places ha1_creams ha2 ha2_signs f_court_places f_court_creams f_court_present f_court_lying f_court_his f_court_power f_court_spite f_court_hour f_acts f_reason f_firstOffAct f_firstOffWitness f_a1_places f_a1_creams f_a1_present f_a1_lying f_a1_his f_a1_power f_a1_spite f_a1_hour f_a2_signs f_a2_count)) (hS : va_S A s.heap H locs) (hl : lv_has ls 4 [(0, .ref h), (2, .ref ha2)]), W p l e (headSpec v_X3_hear ({ frames := 6, cells := 0, slots := 0, locals := 138 } : Room)).room s m (([.ref h, .ref ha1, .ref ha2] : List Value).toArray) below meth c H locs 0 0 (MQ below (q_X3_hear D cI cC h h_court h_court_places h_court_creams ha1 ha1_places ha1_creams ha2 ha2_signs post f_a1_places f_a1_creams f_a1_present f_a1_lying f_a1_his f_a1_power f_a1_spite f_a1_hour f_a2_signs f_a2_count A) (([.ref h, .ref ha1, .ref ha2] : List Value).toArray) s 0 0 A) (F0 m 64 ls [.int s1, .int s0]) := by
        intro f_court_places f_court_creams f_court_present f_court_lying f_court_his f_court_power f_court_spite f_court_hour f_acts f_reason f_firstOffAct f_firstOffWitness s0 s1 H locs ls hw hP hD hS hl
        unfold w_X3_hear_B64 at hw
        refine lv_iadd hx hb dX3_hear_64 ?_
        refine lv_istore_n (lv' := [(3, .int (s0 + s1)), (0, .ref h), (2, .ref ha2)]) hx hb dX3_hear_65 rfl hl (by decide) rfl (fun ls hl => ?_)
        refine lv_goto (tgt := 21) hx hb dX3_hear_66 (by decide) ?_
        exact ih21 f_court_places f_court_creams f_court_present f_court_lying f_court_his f_court_power f_court_spite f_court_hour f_acts f_reason f_firstOffAct f_firstOffWitness (s0 + s1) _ _ _ hw hP hD hS (lv_sub hl [1, 2, 0] rfl)
      intro f_court_places f_court_creams f_court_present f_court_lying f_court_his f_court_power f_court_spite f_court_hour f_acts f_reason f_firstOffAct f_firstOffWitness x3 H locs ls hw hP hD hS hl
      unfold w_X3_hear_B21 at hw
      refine lv_aload_n hx hb dX3_hear_21 rfl (lv_at hl 0 rfl) ?_
      refine va_get (D := D) (ci := 3) (v := .int f_reason) (C := RX3) (T := TX3) (N := 5) hx hb hz hX_X3 hown hK.1 hP 0 rfl rfl 2 (by decide) (hz _ z1_139) (fun _ h9 => h9) rfl dX3_hear_22 ?_
      refine lv_if_ne (tgt := 69) hx hb dX3_hear_25 (by decide) (fun c25 => ?_) (fun c25 => ?_)
      · have hw := hw.2 c25
        exact z_vret hx hb hr hlocks (f_court_places, f_court_creams, f_court_present, f_court_lying, f_court_his, f_court_power, f_court_spite, f_court_hour, f_acts, f_reason, f_firstOffAct, f_firstOffWitness) hw hP hS dX3_hear_69
      have hw := hw.1 c25
      refine lv_iload_n hx hb dX3_hear_28 rfl (lv_at hl 2 rfl) ?_
      refine lv_aload_n hx hb dX3_hear_29 rfl (lv_at hl 1 rfl) ?_
      refine va_getN (D := D) (ci := 4) (v := .int f_a2_count) (C := RX4) (T := TX4) (N := 2) hx hb hz hX_X4 hown hK.1 hP 7 rfl rfl 1 (by decide) (va_Nw.use rfl (hK.2.1 _ (List.mem_of_getElem? (i := 10) rfl))) (fun _ h9 => h9) rfl dX3_hear_30 ?_
      refine lv_icmp_ge (tgt := 69) hx hb dX3_hear_33 (by decide) (fun c33 => ?_) (fun c33 => ?_)
      · have hw := hw.1 c33
        exact z_vret hx hb hr hlocks (f_court_places, f_court_creams, f_court_present, f_court_lying, f_court_his, f_court_power, f_court_spite, f_court_hour, f_acts, f_reason, f_firstOffAct, f_firstOffWitness) hw hP hS dX3_hear_69
      have hw := hw.2 c33
      refine lv_aload_n hx hb dX3_hear_36 rfl (lv_at hl 0 rfl) ?_
      refine lv_aload_n hx hb dX3_hear_37 rfl (lv_at hl 1 rfl) ?_
      refine lv_iload_n hx hb dX3_hear_38 rfl (lv_at hl 2 rfl) ?_
      refine z_ri (z_runV (As := [.int x3]) (rest := [.ref h]) hF (c_X4_kindAt l D cI cC cZ ha2 ha2_signs (.int f_a2_count) f_a2_signs x3 _ _ hw) (cwV 1 hz (z_gV z2_73 z2_74 z2_75 z1_6 z2_76) rfl rfl rfl hd_X4_kindAt ⟨Nat.le_of_ble_eq_true rfl, Nat.le_of_ble_eq_true rfl⟩) hK hP hD [7, 8] rfl rfl 7 4 rfl rfl rfl rfl hl.1 rfl (Nat.le_of_ble_eq_true rfl) dX3_hear_39 ⟨Nat.zero_le _, Nat.zero_le _⟩) hP hD hS hA [7, 8] rfl (fun _ => rfl) (fun _ => cw_X3_hear cI cC h h_court h_court_places h_court_creams ha1 ha1_places ha1_creams ha2 ha2_signs f_court_places f_court_creams f_court_present f_court_lying f_court_his f_court_power f_court_spite f_court_hour f_acts f_reason f_firstOffAct f_firstOffWitness f_a1_places f_a1_creams f_a1_present f_a1_lying f_a1_his f_a1_power f_a1_spite f_a1_hour f_a2_signs f_a2_count) (fun _ => rfl) (fun r39 u39 H locs hw hP hD hS => ?_)
      obtain ⟨hn39, hw⟩ := hw
      try dsimp only at hw
      refine lv_aload_n hx hb dX3_hear_42 rfl (lv_at hl 1 rfl) ?_
      refine lv_iload_n hx hb dX3_hear_43 rfl (lv_at hl 2 rfl) ?_
      refine z_ri (z_runV (As := [.int x3]) (rest := [.int r39, .ref h]) hF (c_X4_numberAt l D cI cC cZ ha2 ha2_signs (.int f_a2_count) f_a2_signs x3 _ _ hw) (cwV 1 hz (z_gV z2_77 z2_78 z2_79 z1_6 z2_80) rfl rfl rfl hd_X4_numberAt ⟨Nat.le_of_ble_eq_true rfl, Nat.le_of_ble_eq_true rfl⟩) hK hP hD [7, 8] rfl rfl 7 4 rfl rfl rfl rfl hl.1 rfl (Nat.le_of_ble_eq_true rfl) dX3_hear_44 ⟨Nat.zero_le _, Nat.zero_le _⟩) hP hD hS hA [7, 8] rfl (fun _ => rfl) (fun _ => cw_X3_hear cI cC h h_court h_court_places h_court_creams ha1 ha1_places ha1_creams ha2 ha2_signs f_court_places f_court_creams f_court_present f_court_lying f_court_his f_court_power f_court_spite f_court_hour f_acts f_reason f_firstOffAct f_firstOffWitness f_a1_places f_a1_creams f_a1_present f_a1_lying f_a1_his f_a1_power f_a1_spite f_a1_hour f_a2_signs f_a2_count) (fun _ => rfl) (fun r44 u44 H locs hw hP hD hS => ?_)
      try dsimp only at hw
      refine z_rv (z_runV (As := [.int r39, .int r44]) (rest := []) hF (c_X3_take l D cI cC cZ h h_court h_court_places h_court_creams f_court_places f_court_creams f_court_present f_court_lying f_court_his f_court_power f_court_spite f_court_hour f_acts f_reason f_firstOffAct f_firstOffWitness r39 r44 _ _ hw) (cwV 2 hz (z_gV z2_81 z2_83 zp_5 z1_7 z2_84) rfl rfl rfl hd_X3_take ⟨Nat.le_of_ble_eq_true rfl, Nat.le_of_ble_eq_true rfl⟩) hK hP hD [0, 1, 2, 3] rfl rfl 0 3 rfl rfl rfl rfl hl.1 rfl (Nat.le_of_ble_eq_true rfl) dX3_hear_47 ⟨Nat.zero_le _, Nat.zero_le _⟩) hP hD hS hA [0, 1, 2, 3] rfl (fun _ => rfl) (fun u => cw_X3_hear cI cC h h_court h_court_places h_court_creams ha1 ha1_places ha1_creams ha2 ha2_signs f_court_places u.1 u.2.1 u.2.2.1 u.2.2.2.1 f_court_power f_court_spite u.2.2.2.2.1 u.2.2.2.2.2.1 u.2.2.2.2.2.2.1 u.2.2.2.2.2.2.2.1 u.2.2.2.2.2.2.2.2 f_a1_places f_a1_creams f_a1_present f_a1_lying f_a1_his f_a1_power f_a1_spite f_a1_hour f_a2_signs f_a2_count) (fun _ => rfl) (fun u47 H locs hw hP hD hS => ?_)
      obtain ⟨u47_0, u47_1, u47_2, u47_3, u47_4, u47_5, u47_6, u47_7, u47_8⟩ := u47
      try dsimp only at hw
      have hP : va_P D vwCl (cw_X3_hear cI cC h h_court h_court_places h_court_creams ha1 ha1_places ha1_creams ha2 ha2_signs f_court_places u47_0 u47_1 u47_2 u47_3 f_court_power f_court_spite u47_4 u47_5 u47_6 u47_7 u47_8 f_a1_places f_a1_creams f_a1_present f_a1_lying f_a1_his f_a1_power f_a1_spite f_a1_hour f_a2_signs f_a2_count) H := hP
      have hD : va_D A (cw_X3_hear cI cC h h_court h_court_places h_court_creams ha1 ha1_places ha1_creams ha2 ha2_signs f_court_places u47_0 u47_1 u47_2 u47_3 f_court_power f_court_spite u47_4 u47_5 u47_6 u47_7 u47_8 f_a1_places f_a1_creams f_a1_present f_a1_lying f_a1_his f_a1_power f_a1_spite f_a1_hour f_a2_signs f_a2_count) := hD
      refine lv_iload_n hx hb dX3_hear_50 rfl (lv_at hl 2 rfl) ?_
      refine lv_aload_n hx hb dX3_hear_51 rfl (lv_at hl 1 rfl) ?_
      refine lv_iload_n hx hb dX3_hear_52 rfl (lv_at hl 2 rfl) ?_
      refine z_ri (z_runV (As := [.int x3]) (rest := [.int x3]) hF (c_X4_isHour l D cI cC cZ ha2 ha2_signs (.int f_a2_count) f_a2_signs x3 _ _ hw) (cwV 1 hz (z_gV z2_151 z2_33 z2_34 z1_6 z2_35) rfl rfl rfl hd_X4_isHour ⟨Nat.le_of_ble_eq_true rfl, Nat.le_of_ble_eq_true rfl⟩) hK hP hD [7, 8] rfl rfl 7 4 rfl rfl rfl rfl hl.1 rfl (Nat.le_of_ble_eq_true rfl) dX3_hear_53 ⟨Nat.zero_le _, Nat.zero_le _⟩) hP hD hS hA [7, 8] rfl (fun _ => rfl) (fun _ => cw_X3_hear cI cC h h_court h_court_places h_court_creams ha1 ha1_places ha1_creams ha2 ha2_signs f_court_places u47_0 u47_1 u47_2 u47_3 f_court_power f_court_spite u47_4 u47_5 u47_6 u47_7 u47_8 f_a1_places f_a1_creams f_a1_present f_a1_lying f_a1_his f_a1_power f_a1_spite f_a1_hour f_a2_signs f_a2_count) (fun _ => rfl) (fun r53 u53 H locs hw hP hD hS => ?_)
      obtain ⟨hn53, hw⟩ := hw
      try dsimp only at hw
      refine lv_if_eq (tgt := 63) hx hb dX3_hear_56 (by decide) (fun c56 => ?_) (fun c56 => ?_)
      · have hw := hw.1 c56
        refine lv_iconst (v := (2 : Int32)) hx hb dX3_hear_63 (by decide) ?_
        exact J64 f_court_places u47_0 u47_1 u47_2 u47_3 f_court_power f_court_spite u47_4 u47_5 u47_6 u47_7 u47_8 x3 (2 : Int32) _ _ _ hw hP hD hS (lv_sub hl [0, 1] rfl)
      have hw := hw.2 c56
      refine lv_iconst (v := (1 : Int32)) hx hb dX3_hear_59 (by decide) ?_
      refine lv_goto (tgt := 64) hx hb dX3_hear_60 (by decide) ?_
      exact J64 f_court_places u47_0 u47_1 u47_2 u47_3 f_court_power f_court_spite u47_4 u47_5 u47_6 u47_7 u47_8 x3 (1 : Int32) _ _ _ hw hP hD hS (lv_sub hl [0, 1] rfl)
  have J19 : ∀ (f_court_places : Nat → Int32) (f_court_creams : Nat → Int32) (f_court_present : Int32) (f_court_lying : Int32) (f_court_his : Int32) (f_court_power : Int32) (f_court_spite : Int32) (f_court_hour : Int32) (f_acts : Int32) (f_reason : Int32) (f_firstOffAct : Int32) (f_firstOffWitness : Int32) (H : Heap) (locs : List Loc) (ls : Array Slot) (hw : w_X3_hear_B19 post f_a1_places f_a1_creams f_a1_present f_a1_lying f_a1_his f_a1_power f_a1_spite f_a1_hour f_a2_signs f_a2_count f_court_places f_court_creams f_court_present f_court_lying f_court_his f_court_power f_court_spite f_court_hour f_acts f_reason f_firstOffAct f_firstOffWitness) (hP : va_P D vwCl (cw_X3_hear cI cC h h_court h_court_places h_court_creams ha1 ha1_places ha1_creams ha2 ha2_signs f_court_places f_court_creams f_court_present f_court_lying f_court_his f_court_power f_court_spite f_court_hour f_acts f_reason f_firstOffAct f_firstOffWitness f_a1_places f_a1_creams f_a1_present f_a1_lying f_a1_his f_a1_power f_a1_spite f_a1_hour f_a2_signs f_a2_count) H) (hD : va_D A (cw_X3_hear cI cC h h_court h_court_places h_court_creams ha1 ha1_places ha1_creams ha2 ha2_signs f_court_places f_court_creams f_court_present f_court_lying f_court_his f_court_power f_court_spite f_court_hour f_acts f_reason f_firstOffAct f_firstOffWitness f_a1_places f_a1_creams f_a1_present f_a1_lying f_a1_his f_a1_power f_a1_spite f_a1_hour f_a2_signs f_a2_count)) (hS : va_S A s.heap H locs) (hl : lv_has ls 4 [(0, .ref h), (2, .ref ha2)]), W p l e (headSpec v_X3_hear ({ frames := 6, cells := 0, slots := 0, locals := 138 } : Room)).room s m (([.ref h, .ref ha1, .ref ha2] : List Value).toArray) below meth c H locs 0 0 (MQ below (q_X3_hear D cI cC h h_court h_court_places h_court_creams ha1 ha1_places ha1_creams ha2 ha2_signs post f_a1_places f_a1_creams f_a1_present f_a1_lying f_a1_his f_a1_power f_a1_spite f_a1_hour f_a2_signs f_a2_count A) (([.ref h, .ref ha1, .ref ha2] : List Value).toArray) s 0 0 A) (F0 m 19 ls []) := by
    intro f_court_places f_court_creams f_court_present f_court_lying f_court_his f_court_power f_court_spite f_court_hour f_acts f_reason f_firstOffAct f_firstOffWitness H locs ls hw hP hD hS hl
    unfold w_X3_hear_B19 at hw
    refine lv_iconst (v := (0 : Int32)) hx hb dX3_hear_19 (by decide) ?_
    refine lv_istore_n (lv' := [(3, .int (0 : Int32)), (0, .ref h), (2, .ref ha2)]) hx hb dX3_hear_20 rfl hl (by decide) rfl (fun ls hl => ?_)
    obtain ⟨n21, hw⟩ := hw
    exact L21 n21 f_court_places f_court_creams f_court_present f_court_lying f_court_his f_court_power f_court_spite f_court_hour f_acts f_reason f_firstOffAct f_firstOffWitness (0 : Int32) _ _ _ hw hP hD hS (lv_sub hl [1, 2, 0] rfl)
  unfold w_X3_hear at hw
  refine lv_aload_n hx hb dX3_hear_0 rfl (lv_at hl 0 rfl) ?_
  refine lv_aload_n hx hb dX3_hear_1 rfl (lv_at hl 1 rfl) ?_
  refine z_rv (z_runV (As := [.ref ha1]) (rest := []) hF (c_X3_begin l D cI cC cZ h h_court h_court_places h_court_creams ha1 ha1_places ha1_creams f_court_places f_court_creams f_court_present f_court_lying f_court_his f_court_power f_court_spite f_court_hour f_acts f_reason f_firstOffAct f_firstOffWitness f_a1_places f_a1_creams f_a1_present f_a1_lying f_a1_his f_a1_power f_a1_spite f_a1_hour _ _ hw) (cwV 1 hz (z_gV z2_61 z2_63 zp_4 z1_7 z2_64) rfl rfl rfl hd_X3_begin ⟨Nat.le_of_ble_eq_true rfl, Nat.le_of_ble_eq_true rfl⟩) hK hP hD [0, 1, 2, 3, 4, 5, 6] rfl rfl 0 3 rfl rfl rfl rfl hl.1 rfl (Nat.le_of_ble_eq_true rfl) dX3_hear_2 ⟨Nat.zero_le _, Nat.zero_le _⟩) hP hD hS hA [0, 1, 2, 3, 4, 5, 6] rfl (fun _ => rfl) (fun u => cw_X3_hear cI cC h h_court h_court_places h_court_creams ha1 ha1_places ha1_creams ha2 ha2_signs u.1 u.2.1 u.2.2.1 u.2.2.2.1 u.2.2.2.2.1 u.2.2.2.2.2.1 u.2.2.2.2.2.2.1 u.2.2.2.2.2.2.2.1 u.2.2.2.2.2.2.2.2.1 u.2.2.2.2.2.2.2.2.2.1 u.2.2.2.2.2.2.2.2.2.2.1 u.2.2.2.2.2.2.2.2.2.2.2 f_a1_places f_a1_creams f_a1_present f_a1_lying f_a1_his f_a1_power f_a1_spite f_a1_hour f_a2_signs f_a2_count) (fun _ => rfl) (fun u2 H locs hw hP hD hS => ?_)
  obtain ⟨u2_0, u2_1, u2_2, u2_3, u2_4, u2_5, u2_6, u2_7, u2_8, u2_9, u2_10, u2_11⟩ := u2
  try dsimp only at hw
  have hP : va_P D vwCl (cw_X3_hear cI cC h h_court h_court_places h_court_creams ha1 ha1_places ha1_creams ha2 ha2_signs u2_0 u2_1 u2_2 u2_3 u2_4 u2_5 u2_6 u2_7 u2_8 u2_9 u2_10 u2_11 f_a1_places f_a1_creams f_a1_present f_a1_lying f_a1_his f_a1_power f_a1_spite f_a1_hour f_a2_signs f_a2_count) H := hP
  have hD : va_D A (cw_X3_hear cI cC h h_court h_court_places h_court_creams ha1 ha1_places ha1_creams ha2 ha2_signs u2_0 u2_1 u2_2 u2_3 u2_4 u2_5 u2_6 u2_7 u2_8 u2_9 u2_10 u2_11 f_a1_places f_a1_creams f_a1_present f_a1_lying f_a1_his f_a1_power f_a1_spite f_a1_hour f_a2_signs f_a2_count) := hD
  refine lv_aload_n hx hb dX3_hear_5 rfl (lv_at hl 2 rfl) ?_
  refine z_ri (z_runV (As := []) (rest := []) hF (c_X4_firstFault l D cI cC cZ ha2 ha2_signs f_a2_signs f_a2_count _ _ hw) (cwV 0 hz (z_gV z2_72 z2_29 z2_30 z1_6 z2_31) rfl rfl rfl hd_X4_firstFault ⟨Nat.le_of_ble_eq_true rfl, Nat.le_of_ble_eq_true rfl⟩) hK hP hD [7, 8] rfl rfl 7 4 rfl rfl rfl rfl hl.1 rfl (Nat.le_of_ble_eq_true rfl) dX3_hear_6 ⟨Nat.zero_le _, Nat.zero_le _⟩) hP hD hS hA [7, 8] rfl (fun _ => rfl) (fun _ => cw_X3_hear cI cC h h_court h_court_places h_court_creams ha1 ha1_places ha1_creams ha2 ha2_signs u2_0 u2_1 u2_2 u2_3 u2_4 u2_5 u2_6 u2_7 u2_8 u2_9 u2_10 u2_11 f_a1_places f_a1_creams f_a1_present f_a1_lying f_a1_his f_a1_power f_a1_spite f_a1_hour f_a2_signs f_a2_count) (fun _ => rfl) (fun r6 u6 H locs hw hP hD hS => ?_)
  try dsimp only at hw
  refine lv_bipush (v := (-6 : Int32)) hx hb dX3_hear_9 (by decide) ?_
  refine lv_icmp_eq (tgt := 19) hx hb dX3_hear_11 (by decide) (fun c11 => ?_) (fun c11 => ?_)
  · have hw := hw.1 c11
    exact J19 u2_0 u2_1 u2_2 u2_3 u2_4 u2_5 u2_6 u2_7 u2_8 u2_9 u2_10 u2_11 _ _ _ hw hP hD hS (lv_sub hl [0, 2] rfl)
  have hw := hw.2 c11
  refine lv_aload_n hx hb dX3_hear_14 rfl (lv_at hl 0 rfl) ?_
  refine lv_iconst (v := (-1 : Int32)) hx hb dX3_hear_15 (by decide) ?_
  refine va_put (D := D) (ci := 3) (v := .int (-1 : Int32)) (ty := .int) (C := RX3) (T := TX3) (N := 5) hx hb hz hX_X3 tyX3 tyX3_ok nmX3 hown hK.1 hP hD hS 0 rfl rfl 2 (by decide) (hz _ z1_139) (fun _ h9 => h9) rfl (tyX3_ok 2 (by decide)) rfl rfl (Nat.le_of_ble_eq_true rfl) dX3_hear_16 (fun H locs hP hD hS => ?_)
  have hP : va_P D vwCl (cw_X3_hear cI cC h h_court h_court_places h_court_creams ha1 ha1_places ha1_creams ha2 ha2_signs u2_0 u2_1 u2_2 u2_3 u2_4 u2_5 u2_6 u2_7 u2_8 (-1 : Int32) u2_10 u2_11 f_a1_places f_a1_creams f_a1_present f_a1_lying f_a1_his f_a1_power f_a1_spite f_a1_hour f_a2_signs f_a2_count) H := hP
  have hD : va_D A (cw_X3_hear cI cC h h_court h_court_places h_court_creams ha1 ha1_places ha1_creams ha2 ha2_signs u2_0 u2_1 u2_2 u2_3 u2_4 u2_5 u2_6 u2_7 u2_8 (-1 : Int32) u2_10 u2_11 f_a1_places f_a1_creams f_a1_present f_a1_lying f_a1_his f_a1_power f_a1_spite f_a1_hour f_a2_signs f_a2_count) := hD
  exact J19 u2_0 u2_1 u2_2 u2_3 u2_4 u2_5 u2_6 u2_7 u2_8 (-1 : Int32) u2_10 u2_11 _ _ _ hw hP hD hS (lv_sub hl [0, 2] rfl)
abbrev cw_X8_judge (cI cC : ClassId) (h h_world h_world_court h_world_court_places h_world_court_creams h_pad h_pad_signs h_hearing h_hearing_court h_hearing_court_places h_hearing_court_creams : Nat) (g_images g_bowls g_guesses g_world_town g_world_sights : Value) (f_world_court_places : Nat → Int32) (f_world_court_creams : Nat → Int32) (f_world_court_present : Int32) (f_world_court_lying : Int32) (f_world_court_his : Int32) (f_world_court_power : Int32) (f_world_court_spite : Int32) (f_world_court_hour : Int32) (f_pad_signs : Nat → Int32) (f_pad_count : Int32) (f_hearing_court_places : Nat → Int32) (f_hearing_court_creams : Nat → Int32) (f_hearing_court_present : Int32) (f_hearing_court_lying : Int32) (f_hearing_court_his : Int32) (f_hearing_court_power : Int32) (f_hearing_court_spite : Int32) (f_hearing_court_hour : Int32) (f_hearing_acts : Int32) (f_hearing_reason : Int32) (f_hearing_firstOffAct : Int32) (f_hearing_firstOffWitness : Int32) : va_W := [(h, .inr (8, [.ref h_world, g_images, .ref h_pad, .ref h_hearing, g_bowls, g_guesses])), (h_world, .inr (7, [.ref h_world_court, g_world_town, g_world_sights])), (h_world_court, .inr (1, [.ref h_world_court_places, .ref h_world_court_creams, .int f_world_court_present, .int f_world_court_lying, .int f_world_court_his, .int f_world_court_power, .int f_world_court_spite, .int f_world_court_hour])), (h_world_court_places, .inl (cI, 8, .inl f_world_court_places)), (h_world_court_creams, .inl (cI, 8, .inl f_world_court_creams)), (h_pad, .inr (4, [.ref h_pad_signs, .int f_pad_count])), (h_pad_signs, .inl (cC, 60, .inl f_pad_signs)), (h_hearing, .inr (3, [.ref h_hearing_court, .int f_hearing_acts, .int f_hearing_reason, .int f_hearing_firstOffAct, .int f_hearing_firstOffWitness])), (h_hearing_court, .inr (1, [.ref h_hearing_court_places, .ref h_hearing_court_creams, .int f_hearing_court_present, .int f_hearing_court_lying, .int f_hearing_court_his, .int f_hearing_court_power, .int f_hearing_court_spite, .int f_hearing_court_hour])), (h_hearing_court_places, .inl (cI, 8, .inl f_hearing_court_places)), (h_hearing_court_creams, .inl (cI, 8, .inl f_hearing_court_creams))]
abbrev q_X8_judge (D : va_G) (cI cC : ClassId) (h h_world h_world_court h_world_court_places h_world_court_creams h_pad h_pad_signs h_hearing h_hearing_court h_hearing_court_places h_hearing_court_creams : Nat) (g_images g_bowls g_guesses g_world_town g_world_sights : Value) (post : Int32 → (Nat → Int32) → (Nat → Int32) → Int32 → Int32 → Int32 → Int32 → Int32 → Int32 → Int32 → Int32 → Int32 → Int32 → Prop) (f_world_court_places : Nat → Int32) (f_world_court_creams : Nat → Int32) (f_world_court_present : Int32) (f_world_court_lying : Int32) (f_world_court_his : Int32) (f_world_court_power : Int32) (f_world_court_spite : Int32) (f_world_court_hour : Int32) (f_pad_signs : Nat → Int32) (f_pad_count : Int32) (A : Nat → Prop) : Array Value → State → Outcome → State → Prop := va_Qi (S := (Nat → Int32) × (Nat → Int32) × Int32 × Int32 × Int32 × Int32 × Int32 × Int32 × Int32 × Int32 × Int32 × Int32) (fun r u => post r u.1 u.2.1 u.2.2.1 u.2.2.2.1 u.2.2.2.2.1 u.2.2.2.2.2.1 u.2.2.2.2.2.2.1 u.2.2.2.2.2.2.2.1 u.2.2.2.2.2.2.2.2.1 u.2.2.2.2.2.2.2.2.2.1 u.2.2.2.2.2.2.2.2.2.2.1 u.2.2.2.2.2.2.2.2.2.2.2) (fun u t => va_P D vwCl (cw_X8_judge cI cC h h_world h_world_court h_world_court_places h_world_court_creams h_pad h_pad_signs h_hearing h_hearing_court h_hearing_court_places h_hearing_court_creams g_images g_bowls g_guesses g_world_town g_world_sights f_world_court_places f_world_court_creams f_world_court_present f_world_court_lying f_world_court_his f_world_court_power f_world_court_spite f_world_court_hour f_pad_signs f_pad_count u.1 u.2.1 u.2.2.1 u.2.2.2.1 u.2.2.2.2.1 u.2.2.2.2.2.1 u.2.2.2.2.2.2.1 u.2.2.2.2.2.2.2.1 u.2.2.2.2.2.2.2.2.1 u.2.2.2.2.2.2.2.2.2.1 u.2.2.2.2.2.2.2.2.2.2.1 u.2.2.2.2.2.2.2.2.2.2.2) t.heap) A
abbrev v_X8_judge : List Cond := .code yX8_judge cX8_judge 2 (some .int) :: zB
theorem hd_X8_judge : yX8_judge.cls = RX8 ∧ yX8_judge.cls ≠ "java/lang/invoke/MethodHandle" ∧ yX8_judge.cls ≠ "java/lang/invoke/VarHandle" ∧ (parseMethodDescriptor yX8_judge.desc).map (fun d => d.parameters.length) = some 1 := by decide +kernel
set_option maxHeartbeats 4000000 in
set_option maxRecDepth 100000 in
theorem c_X8_judge (l : Launch) (D : va_G) (cI cC cZ : ClassId) (h h_world h_world_court h_world_court_places h_world_court_creams h_pad h_pad_signs h_hearing h_hearing_court h_hearing_court_places h_hearing_court_creams : Nat) (g_images g_bowls g_guesses g_world_town g_world_sights : Value) (f_world_court_places : Nat → Int32) (f_world_court_creams : Nat → Int32) (f_world_court_present : Int32) (f_world_court_lying : Int32) (f_world_court_his : Int32) (f_world_court_power : Int32) (f_world_court_spite : Int32) (f_world_court_hour : Int32) (f_pad_signs : Nat → Int32) (f_pad_count : Int32) (f_hearing_court_places : Nat → Int32) (f_hearing_court_creams : Nat → Int32) (f_hearing_court_present : Int32) (f_hearing_court_lying : Int32) (f_hearing_court_his : Int32) (f_hearing_court_power : Int32) (f_hearing_court_spite : Int32) (f_hearing_court_hour : Int32) (f_hearing_acts : Int32) (f_hearing_reason : Int32) (f_hearing_firstOffAct : Int32) (f_hearing_firstOffWitness : Int32) (p1 : Int32) (sz : Nat) (post : Int32 → (Nat → Int32) → (Nat → Int32) → Int32 → Int32 → Int32 → Int32 → Int32 → Int32 → Int32 → Int32 → Int32 → Int32 → Prop) (hw : w_X8_judge post f_world_court_places f_world_court_creams f_world_court_present f_world_court_lying f_world_court_his f_world_court_power f_world_court_spite f_world_court_hour f_pad_signs f_pad_count f_hearing_court_places f_hearing_court_creams f_hearing_court_present f_hearing_court_lying f_hearing_court_his f_hearing_court_power f_hearing_court_spite f_hearing_court_hour f_hearing_acts f_hearing_reason f_hearing_firstOffAct f_hearing_firstOffWitness p1) : Met l yX8_judge v_X8_judge ({ frames := 7, cells := 0, slots := 0, locals := 161 } : Room) (va_Pc [.ref h, .int p1] (zPre D (zT cI cC cZ) sz (cw_X8_judge cI cC h h_world h_world_court h_world_court_places h_world_court_creams h_pad h_pad_signs h_hearing h_hearing_court h_hearing_court_places h_hearing_court_creams g_images g_bowls g_guesses g_world_town g_world_sights f_world_court_places f_world_court_creams f_world_court_present f_world_court_lying f_world_court_his f_world_court_power f_world_court_spite f_world_court_hour f_pad_signs f_pad_count f_hearing_court_places f_hearing_court_creams f_hearing_court_present f_hearing_court_lying f_hearing_court_his f_hearing_court_power f_hearing_court_spite f_hearing_court_hour f_hearing_acts f_hearing_reason f_hearing_firstOffAct f_hearing_firstOffWitness))) (q_X8_judge D cI cC h h_world h_world_court h_world_court_places h_world_court_creams h_pad h_pad_signs h_hearing h_hearing_court h_hearing_court_places h_hearing_court_creams g_images g_bowls g_guesses g_world_town g_world_sights post f_world_court_places f_world_court_creams f_world_court_present f_world_court_lying f_world_court_his f_world_court_power f_world_court_spite f_world_court_hour f_pad_signs f_pad_count (va_A (cw_X8_judge cI cC h h_world h_world_court h_world_court_places h_world_court_creams h_pad h_pad_signs h_hearing h_hearing_court h_hearing_court_places h_hearing_court_creams g_images g_bowls g_guesses g_world_town g_world_sights f_world_court_places f_world_court_creams f_world_court_present f_world_court_lying f_world_court_his f_world_court_power f_world_court_spite f_world_court_hour f_pad_signs f_pad_count f_hearing_court_places f_hearing_court_creams f_hearing_court_present f_hearing_court_lying f_hearing_court_his f_hearing_court_power f_hearing_court_spite f_hearing_court_hour f_hearing_acts f_hearing_reason f_hearing_firstOffAct f_hearing_firstOffWitness) sz)) 0 0 (va_A (cw_X8_judge cI cC h h_world h_world_court h_world_court_places h_world_court_creams h_pad h_pad_signs h_hearing h_hearing_court h_hearing_court_places h_hearing_court_creams g_images g_bowls g_guesses g_world_town g_world_sights f_world_court_places f_world_court_creams f_world_court_present f_world_court_lying f_world_court_his f_world_court_power f_world_court_spite f_world_court_hour f_pad_signs f_pad_count f_hearing_court_places f_hearing_court_creams f_hearing_court_present f_hearing_court_lying f_hearing_court_his f_hearing_court_power f_hearing_court_spite f_hearing_court_hour f_hearing_acts f_hearing_reason f_hearing_firstOffAct f_hearing_firstOffWitness) sz) := by
  refine Met.ofW (cc := cX8_judge) (maxL := 2) (ret := (some .int)) (by decide) rfl ?_
  intro p e s m args below meth c s₁ B hml hv
  obtain ⟨rfl, hsz, hP, hK, hD0⟩ := hv
  subst hsz
  have hx := B.exec
  have hb := B.bytes
  have hr := B.returns
  have hz : ∀ w ∈ zB, w.before _ s = true := fun w h => atoms_spec (ws := v_X8_judge) B.pre w (List.mem_cons_of_mem _ h)
  have hown : s.vm.findClass RX8 = some m.cls := findClass_of_methodNamed B.named
  have hlocks := B.notSynchronized
  have hF : CallFix p m c cX8_judge 2 s (([.ref h, .int p1] : List Value).toArray) zB RX8 := ⟨hx, hb, hml, hown, hz⟩
  have hD := hD0.self (sz := s.heap.size)
  generalize hAe : va_A (cw_X8_judge cI cC h h_world h_world_court h_world_court_places h_world_court_creams h_pad h_pad_signs h_hearing h_hearing_court h_hearing_court_places h_hearing_court_creams g_images g_bowls g_guesses g_world_town g_world_sights f_world_court_places f_world_court_creams f_world_court_present f_world_court_lying f_world_court_his f_world_court_power f_world_court_spite f_world_court_hour f_pad_signs f_pad_count f_hearing_court_places f_hearing_court_creams f_hearing_court_present f_hearing_court_lying f_hearing_court_his f_hearing_court_power f_hearing_court_spite f_hearing_court_hour f_hearing_acts f_hearing_reason f_hearing_firstOffAct f_hearing_firstOffWitness) s.heap.size = A at hD ⊢
  have hA : ∀ q : Nat, s.heap.size ≤ q → A q := fun q h => by rw [← hAe]; exact Or.inr h
  have hS : va_S A s.heap s.heap [] := va_S.rf
  have hP : va_P D vwCl (cw_X8_judge cI cC h h_world h_world_court h_world_court_places h_world_court_creams h_pad h_pad_signs h_hearing h_hearing_court h_hearing_court_places h_hearing_court_creams g_images g_bowls g_guesses g_world_town g_world_sights f_world_court_places f_world_court_creams f_world_court_present f_world_court_lying f_world_court_his f_world_court_power f_world_court_spite f_world_court_hour f_pad_signs f_pad_count f_hearing_court_places f_hearing_court_creams f_hearing_court_present f_hearing_court_lying f_hearing_court_his f_hearing_court_power f_hearing_court_spite f_hearing_court_hour f_hearing_acts f_hearing_reason f_hearing_firstOffAct f_hearing_firstOffWitness) s.heap := hP
  have hl := lv_entry ([.ref h, .int p1]) (n := 2) (Nat.le_of_ble_eq_true rfl)
  rw [lg_entry_eq]
  generalize (lg_sl ([.ref h, .int p1]) ++ List.replicate (2 - (lg_sl ([.ref h, .int p1])).length) Slot.unset).toArray = ls at hl ⊢
  have hl : lv_has ls 2 [(0, .ref h), (1, .int p1)] := hl
  unfold w_X8_judge at hw
  refine lv_iload_n hx hb dX8_judge_0 rfl (lv_at hl 1 rfl) ?_
  refine lv_iconst (v := (0 : Int32)) hx hb dX8_judge_1 (by decide) ?_
  refine lv_iconst (v := (1 : Int32)) hx hb dX8_judge_2 (by decide) ?_
  refine z_ri (z_runS (As := [.int p1, .int (0 : Int32), .int (1 : Int32)]) (rest := []) hF (c_X8_within l D cI cC cZ p1 (0 : Int32) (1 : Int32) _ _ hw) (va_cwS 3 hz (z_gS z1_212 z1_213 z1_1 z1_214) rfl rfl rfl hd_X8_within ⟨Nat.le_of_ble_eq_true rfl, Nat.le_of_ble_eq_true rfl⟩) hK hP hD [] rfl rfl rfl hl.1 rfl (Nat.le_of_ble_eq_true rfl) dX8_judge_3 ⟨Nat.zero_le _, Nat.zero_le _⟩) hP hD hS hA [] rfl (fun _ => rfl) (fun _ => cw_X8_judge cI cC h h_world h_world_court h_world_court_places h_world_court_creams h_pad h_pad_signs h_hearing h_hearing_court h_hearing_court_places h_hearing_court_creams g_images g_bowls g_guesses g_world_town g_world_sights f_world_court_places f_world_court_creams f_world_court_present f_world_court_lying f_world_court_his f_world_court_power f_world_court_spite f_world_court_hour f_pad_signs f_pad_count f_hearing_court_places f_hearing_court_creams f_hearing_court_present f_hearing_court_lying f_hearing_court_his f_hearing_court_power f_hearing_court_spite f_hearing_court_hour f_hearing_acts f_hearing_reason f_hearing_firstOffAct f_hearing_firstOffWitness) (fun _ => rfl) (fun r3 u3 H locs hw hP hD hS => ?_)
  obtain ⟨hn3, hw⟩ := hw
  try dsimp only at hw
  refine lv_if_ne (tgt := 12) hx hb dX8_judge_6 (by decide) (fun c6 => ?_) (fun c6 => ?_)
  · have hw := hw.2 c6
    refine lv_aload_n hx hb dX8_judge_12 rfl (lv_at hl 0 rfl) ?_
    refine va_get (D := D) (ci := 8) (v := .ref h_hearing) (C := RX8) (T := TX8) (N := 6) hx hb hz hX_X8 hown hK.1 hP 0 rfl rfl 3 (by decide) (hz _ z1_186) (fun _ h9 => h9) rfl dX8_judge_13 ?_
    refine lv_aload_n hx hb dX8_judge_16 rfl (lv_at hl 0 rfl) ?_
    refine va_get (D := D) (ci := 8) (v := .ref h_world) (C := RX8) (T := TX8) (N := 6) hx hb hz hX_X8 hown hK.1 hP 0 rfl rfl 0 (by decide) (hz _ z1_183) (fun _ h9 => h9) rfl dX8_judge_17 ?_
    refine va_getN (D := D) (ci := 7) (v := .ref h_world_court) (C := RX7) (T := TX7) (N := 3) hx hb hz hX_X7 hown hK.1 hP 1 rfl rfl 0 (by decide) (va_Nw.use rfl (hK.2.1 _ (List.mem_of_getElem? (i := 7) rfl))) (fun _ h9 => h9) rfl dX8_judge_20 ?_
    refine lv_aload_n hx hb dX8_judge_23 rfl (lv_at hl 0 rfl) ?_
    refine va_get (D := D) (ci := 8) (v := .ref h_pad) (C := RX8) (T := TX8) (N := 6) hx hb hz hX_X8 hown hK.1 hP 0 rfl rfl 2 (by decide) (hz _ z1_185) (fun _ h9 => h9) rfl dX8_judge_24 ?_
    refine z_rv (z_runV (As := [.ref h_world_court, .ref h_pad]) (rest := []) hF (c_X3_hear l D cI cC cZ h_hearing h_hearing_court h_hearing_court_places h_hearing_court_creams h_world_court h_world_court_places h_world_court_creams h_pad h_pad_signs f_hearing_court_places f_hearing_court_creams f_hearing_court_present f_hearing_court_lying f_hearing_court_his f_hearing_court_power f_hearing_court_spite f_hearing_court_hour f_hearing_acts f_hearing_reason f_hearing_firstOffAct f_hearing_firstOffWitness f_world_court_places f_world_court_creams f_world_court_present f_world_court_lying f_world_court_his f_world_court_power f_world_court_spite f_world_court_hour f_pad_signs f_pad_count _ _ hw) (cwV 2 hz (z_gV z2_57 z2_58 z2_59 z1_7 z2_60) rfl rfl rfl hd_X3_hear ⟨Nat.le_of_ble_eq_true rfl, Nat.le_of_ble_eq_true rfl⟩) hK hP hD [7, 8, 9, 10, 2, 3, 4, 5, 6] rfl rfl 7 3 rfl rfl rfl rfl hl.1 rfl (Nat.le_of_ble_eq_true rfl) dX8_judge_27 ⟨Nat.zero_le _, Nat.zero_le _⟩) hP hD hS hA [7, 8, 9, 10, 2, 3, 4, 5, 6] rfl (fun _ => rfl) (fun u => cw_X8_judge cI cC h h_world h_world_court h_world_court_places h_world_court_creams h_pad h_pad_signs h_hearing h_hearing_court h_hearing_court_places h_hearing_court_creams g_images g_bowls g_guesses g_world_town g_world_sights f_world_court_places f_world_court_creams f_world_court_present f_world_court_lying f_world_court_his f_world_court_power f_world_court_spite f_world_court_hour f_pad_signs f_pad_count u.1 u.2.1 u.2.2.1 u.2.2.2.1 u.2.2.2.2.1 u.2.2.2.2.2.1 u.2.2.2.2.2.2.1 u.2.2.2.2.2.2.2.1 u.2.2.2.2.2.2.2.2.1 u.2.2.2.2.2.2.2.2.2.1 u.2.2.2.2.2.2.2.2.2.2.1 u.2.2.2.2.2.2.2.2.2.2.2) (fun _ => rfl) (fun u27 H locs hw hP hD hS => ?_)
    obtain ⟨u27_0, u27_1, u27_2, u27_3, u27_4, u27_5, u27_6, u27_7, u27_8, u27_9, u27_10, u27_11⟩ := u27
    try dsimp only at hw
    have hP : va_P D vwCl (cw_X8_judge cI cC h h_world h_world_court h_world_court_places h_world_court_creams h_pad h_pad_signs h_hearing h_hearing_court h_hearing_court_places h_hearing_court_creams g_images g_bowls g_guesses g_world_town g_world_sights f_world_court_places f_world_court_creams f_world_court_present f_world_court_lying f_world_court_his f_world_court_power f_world_court_spite f_world_court_hour f_pad_signs f_pad_count u27_0 u27_1 u27_2 u27_3 u27_4 u27_5 u27_6 u27_7 u27_8 u27_9 u27_10 u27_11) H := hP
    have hD : va_D A (cw_X8_judge cI cC h h_world h_world_court h_world_court_places h_world_court_creams h_pad h_pad_signs h_hearing h_hearing_court h_hearing_court_places h_hearing_court_creams g_images g_bowls g_guesses g_world_town g_world_sights f_world_court_places f_world_court_creams f_world_court_present f_world_court_lying f_world_court_his f_world_court_power f_world_court_spite f_world_court_hour f_pad_signs f_pad_count u27_0 u27_1 u27_2 u27_3 u27_4 u27_5 u27_6 u27_7 u27_8 u27_9 u27_10 u27_11) := hD
    refine lv_aload_n hx hb dX8_judge_30 rfl (lv_at hl 0 rfl) ?_
    refine va_get (D := D) (ci := 8) (v := .ref h_hearing) (C := RX8) (T := TX8) (N := 6) hx hb hz hX_X8 hown hK.1 hP 0 rfl rfl 3 (by decide) (hz _ z1_186) (fun _ h9 => h9) rfl dX8_judge_31 ?_
    refine va_getN (D := D) (ci := 3) (v := .int u27_9) (C := RX3) (T := TX3) (N := 5) hx hb hz hX_X3 hown hK.1 hP 7 rfl rfl 2 (by decide) (va_Nw.use rfl (hK.2.1 _ (List.mem_of_getElem? (i := 14) rfl))) (fun _ h9 => h9) rfl dX8_judge_34 ?_
    refine lv_iconst (v := (-1 : Int32)) hx hb dX8_judge_37 (by decide) ?_
    refine lv_icmp_ne (tgt := 44) hx hb dX8_judge_38 (by decide) (fun c38 => ?_) (fun c38 => ?_)
    · have hw := hw.2 c38
      refine lv_aload_n hx hb dX8_judge_44 rfl (lv_at hl 0 rfl) ?_
      refine va_get (D := D) (ci := 8) (v := .ref h_hearing) (C := RX8) (T := TX8) (N := 6) hx hb hz hX_X8 hown hK.1 hP 0 rfl rfl 3 (by decide) (hz _ z1_186) (fun _ h9 => h9) rfl dX8_judge_45 ?_
      refine va_getN (D := D) (ci := 3) (v := .int u27_9) (C := RX3) (T := TX3) (N := 5) hx hb hz hX_X3 hown hK.1 hP 7 rfl rfl 2 (by decide) (va_Nw.use rfl (hK.2.1 _ (List.mem_of_getElem? (i := 14) rfl))) (fun _ h9 => h9) rfl dX8_judge_48 ?_
      refine lv_if_ne (tgt := 57) hx hb dX8_judge_51 (by decide) (fun c51 => ?_) (fun c51 => ?_)
      · have hw := hw.2 c51
        refine lv_iload_n hx hb dX8_judge_57 rfl (lv_at hl 1 rfl) ?_
        refine lv_if_ne (tgt := 71) hx hb dX8_judge_58 (by decide) (fun c58 => ?_) (fun c58 => ?_)
        · have hw := hw.2 c58
          refine lv_aload_n hx hb dX8_judge_71 rfl (lv_at hl 0 rfl) ?_
          refine va_get (D := D) (ci := 8) (v := .ref h_hearing) (C := RX8) (T := TX8) (N := 6) hx hb hz hX_X8 hown hK.1 hP 0 rfl rfl 3 (by decide) (hz _ z1_186) (fun _ h9 => h9) rfl dX8_judge_72 ?_
          refine va_getN (D := D) (ci := 3) (v := .int u27_9) (C := RX3) (T := TX3) (N := 5) hx hb hz hX_X3 hown hK.1 hP 7 rfl rfl 2 (by decide) (va_Nw.use rfl (hK.2.1 _ (List.mem_of_getElem? (i := 14) rfl))) (fun _ h9 => h9) rfl dX8_judge_75 ?_
          exact z_iret hx hb hr hlocks (u27_0, u27_1, u27_2, u27_3, u27_4, u27_5, u27_6, u27_7, u27_8, u27_9, u27_10, u27_11) hw hP hS dX8_judge_78
        have hw := hw.1 c58
        refine lv_aload_n hx hb dX8_judge_61 rfl (lv_at hl 0 rfl) ?_
        refine va_get (D := D) (ci := 8) (v := .ref h_hearing) (C := RX8) (T := TX8) (N := 6) hx hb hz hX_X8 hown hK.1 hP 0 rfl rfl 3 (by decide) (hz _ z1_186) (fun _ h9 => h9) rfl dX8_judge_62 ?_
        refine va_getN (D := D) (ci := 3) (v := .int u27_8) (C := RX3) (T := TX3) (N := 5) hx hb hz hX_X3 hown hK.1 hP 7 rfl rfl 1 (by decide) (va_Nw.use rfl (hK.2.1 _ (List.mem_of_getElem? (i := 13) rfl))) (fun _ h9 => h9) rfl dX8_judge_65 ?_
        refine lv_goto (tgt := 78) hx hb dX8_judge_68 (by decide) ?_
        exact z_iret hx hb hr hlocks (u27_0, u27_1, u27_2, u27_3, u27_4, u27_5, u27_6, u27_7, u27_8, u27_9, u27_10, u27_11) hw hP hS dX8_judge_78
      have hw := hw.1 c51
      refine lv_bipush (v := (-6 : Int32)) hx hb dX8_judge_54 (by decide) ?_
      exact z_iret hx hb hr hlocks (u27_0, u27_1, u27_2, u27_3, u27_4, u27_5, u27_6, u27_7, u27_8, u27_9, u27_10, u27_11) hw hP hS dX8_judge_56
    have hw := hw.1 c38
    refine lv_bipush (v := (-5 : Int32)) hx hb dX8_judge_41 (by decide) ?_
    exact z_iret hx hb hr hlocks (u27_0, u27_1, u27_2, u27_3, u27_4, u27_5, u27_6, u27_7, u27_8, u27_9, u27_10, u27_11) hw hP hS dX8_judge_43
  have hw := hw.1 c6
  refine lv_bipush (v := (-2 : Int32)) hx hb dX8_judge_9 (by decide) ?_
  exact z_iret hx hb hr hlocks (f_hearing_court_places, f_hearing_court_creams, f_hearing_court_present, f_hearing_court_lying, f_hearing_court_his, f_hearing_court_power, f_hearing_court_spite, f_hearing_court_hour, f_hearing_acts, f_hearing_reason, f_hearing_firstOffAct, f_hearing_firstOffWitness) hw hP hS dX8_judge_11
abbrev cw_X8_done (cI cC : ClassId) (h h_world h_world_court h_world_court_places h_world_court_creams h_pad h_pad_signs h_hearing h_hearing_court h_hearing_court_places h_hearing_court_creams : Nat) (g_images g_bowls g_guesses g_world_town g_world_sights : Value) (f_world_court_places : Nat → Int32) (f_world_court_creams : Nat → Int32) (f_world_court_present : Int32) (f_world_court_lying : Int32) (f_world_court_his : Int32) (f_world_court_power : Int32) (f_world_court_spite : Int32) (f_world_court_hour : Int32) (f_pad_signs : Nat → Int32) (f_pad_count : Int32) (f_hearing_court_places : Nat → Int32) (f_hearing_court_creams : Nat → Int32) (f_hearing_court_present : Int32) (f_hearing_court_lying : Int32) (f_hearing_court_his : Int32) (f_hearing_court_power : Int32) (f_hearing_court_spite : Int32) (f_hearing_court_hour : Int32) (f_hearing_acts : Int32) (f_hearing_reason : Int32) (f_hearing_firstOffAct : Int32) (f_hearing_firstOffWitness : Int32) : va_W := [(h, .inr (8, [.ref h_world, g_images, .ref h_pad, .ref h_hearing, g_bowls, g_guesses])), (h_world, .inr (7, [.ref h_world_court, g_world_town, g_world_sights])), (h_world_court, .inr (1, [.ref h_world_court_places, .ref h_world_court_creams, .int f_world_court_present, .int f_world_court_lying, .int f_world_court_his, .int f_world_court_power, .int f_world_court_spite, .int f_world_court_hour])), (h_world_court_places, .inl (cI, 8, .inl f_world_court_places)), (h_world_court_creams, .inl (cI, 8, .inl f_world_court_creams)), (h_pad, .inr (4, [.ref h_pad_signs, .int f_pad_count])), (h_pad_signs, .inl (cC, 60, .inl f_pad_signs)), (h_hearing, .inr (3, [.ref h_hearing_court, .int f_hearing_acts, .int f_hearing_reason, .int f_hearing_firstOffAct, .int f_hearing_firstOffWitness])), (h_hearing_court, .inr (1, [.ref h_hearing_court_places, .ref h_hearing_court_creams, .int f_hearing_court_present, .int f_hearing_court_lying, .int f_hearing_court_his, .int f_hearing_court_power, .int f_hearing_court_spite, .int f_hearing_court_hour])), (h_hearing_court_places, .inl (cI, 8, .inl f_hearing_court_places)), (h_hearing_court_creams, .inl (cI, 8, .inl f_hearing_court_creams))]
abbrev q_X8_done (D : va_G) (cI cC : ClassId) (h h_world h_world_court h_world_court_places h_world_court_creams h_pad h_pad_signs h_hearing h_hearing_court h_hearing_court_places h_hearing_court_creams : Nat) (g_images g_bowls g_guesses g_world_town g_world_sights : Value) (post : Int32 → (Nat → Int32) → (Nat → Int32) → Int32 → Int32 → Int32 → Int32 → Int32 → Int32 → Int32 → (Nat → Int32) → (Nat → Int32) → Int32 → Int32 → Int32 → Int32 → Int32 → Int32 → Int32 → Int32 → Int32 → Int32 → Prop) (f_pad_signs : Nat → Int32) (A : Nat → Prop) : Array Value → State → Outcome → State → Prop := va_Qi (S := (Nat → Int32) × (Nat → Int32) × Int32 × Int32 × Int32 × Int32 × Int32 × Int32 × Int32 × (Nat → Int32) × (Nat → Int32) × Int32 × Int32 × Int32 × Int32 × Int32 × Int32 × Int32 × Int32 × Int32 × Int32) (fun r u => post r u.1 u.2.1 u.2.2.1 u.2.2.2.1 u.2.2.2.2.1 u.2.2.2.2.2.1 u.2.2.2.2.2.2.1 u.2.2.2.2.2.2.2.1 u.2.2.2.2.2.2.2.2.1 u.2.2.2.2.2.2.2.2.2.1 u.2.2.2.2.2.2.2.2.2.2.1 u.2.2.2.2.2.2.2.2.2.2.2.1 u.2.2.2.2.2.2.2.2.2.2.2.2.1 u.2.2.2.2.2.2.2.2.2.2.2.2.2.1 u.2.2.2.2.2.2.2.2.2.2.2.2.2.2.1 u.2.2.2.2.2.2.2.2.2.2.2.2.2.2.2.1 u.2.2.2.2.2.2.2.2.2.2.2.2.2.2.2.2.1 u.2.2.2.2.2.2.2.2.2.2.2.2.2.2.2.2.2.1 u.2.2.2.2.2.2.2.2.2.2.2.2.2.2.2.2.2.2.1 u.2.2.2.2.2.2.2.2.2.2.2.2.2.2.2.2.2.2.2.1 u.2.2.2.2.2.2.2.2.2.2.2.2.2.2.2.2.2.2.2.2) (fun u t => va_P D vwCl (cw_X8_done cI cC h h_world h_world_court h_world_court_places h_world_court_creams h_pad h_pad_signs h_hearing h_hearing_court h_hearing_court_places h_hearing_court_creams g_images g_bowls g_guesses g_world_town g_world_sights u.1 u.2.1 u.2.2.1 u.2.2.2.1 u.2.2.2.2.1 u.2.2.2.2.2.1 u.2.2.2.2.2.2.1 u.2.2.2.2.2.2.2.1 f_pad_signs u.2.2.2.2.2.2.2.2.1 u.2.2.2.2.2.2.2.2.2.1 u.2.2.2.2.2.2.2.2.2.2.1 u.2.2.2.2.2.2.2.2.2.2.2.1 u.2.2.2.2.2.2.2.2.2.2.2.2.1 u.2.2.2.2.2.2.2.2.2.2.2.2.2.1 u.2.2.2.2.2.2.2.2.2.2.2.2.2.2.1 u.2.2.2.2.2.2.2.2.2.2.2.2.2.2.2.1 u.2.2.2.2.2.2.2.2.2.2.2.2.2.2.2.2.1 u.2.2.2.2.2.2.2.2.2.2.2.2.2.2.2.2.2.1 u.2.2.2.2.2.2.2.2.2.2.2.2.2.2.2.2.2.2.1 u.2.2.2.2.2.2.2.2.2.2.2.2.2.2.2.2.2.2.2.1 u.2.2.2.2.2.2.2.2.2.2.2.2.2.2.2.2.2.2.2.2) t.heap) A
abbrev v_X8_done : List Cond := .code yX8_done cX8_done 1 (some .int) :: zB
theorem hd_X8_done : yX8_done.cls = RX8 ∧ yX8_done.cls ≠ "java/lang/invoke/MethodHandle" ∧ yX8_done.cls ≠ "java/lang/invoke/VarHandle" ∧ (parseMethodDescriptor yX8_done.desc).map (fun d => d.parameters.length) = some 0 := by decide +kernel
set_option maxHeartbeats 4000000 in
set_option maxRecDepth 100000 in
theorem c_X8_done (l : Launch) (D : va_G) (cI cC cZ : ClassId) (h h_world h_world_court h_world_court_places h_world_court_creams h_pad h_pad_signs h_hearing h_hearing_court h_hearing_court_places h_hearing_court_creams : Nat) (g_images g_bowls g_guesses g_world_town g_world_sights : Value) (f_world_court_places : Nat → Int32) (f_world_court_creams : Nat → Int32) (f_world_court_present : Int32) (f_world_court_lying : Int32) (f_world_court_his : Int32) (f_world_court_power : Int32) (f_world_court_spite : Int32) (f_world_court_hour : Int32) (f_pad_signs : Nat → Int32) (f_pad_count : Int32) (f_hearing_court_places : Nat → Int32) (f_hearing_court_creams : Nat → Int32) (f_hearing_court_present : Int32) (f_hearing_court_lying : Int32) (f_hearing_court_his : Int32) (f_hearing_court_power : Int32) (f_hearing_court_spite : Int32) (f_hearing_court_hour : Int32) (f_hearing_acts : Int32) (f_hearing_reason : Int32) (f_hearing_firstOffAct : Int32) (f_hearing_firstOffWitness : Int32) (sz : Nat) (post : Int32 → (Nat → Int32) → (Nat → Int32) → Int32 → Int32 → Int32 → Int32 → Int32 → Int32 → Int32 → (Nat → Int32) → (Nat → Int32) → Int32 → Int32 → Int32 → Int32 → Int32 → Int32 → Int32 → Int32 → Int32 → Int32 → Prop) (hw : w_X8_done post f_world_court_places f_world_court_creams f_world_court_present f_world_court_lying f_world_court_his f_world_court_power f_world_court_spite f_world_court_hour f_pad_signs f_pad_count f_hearing_court_places f_hearing_court_creams f_hearing_court_present f_hearing_court_lying f_hearing_court_his f_hearing_court_power f_hearing_court_spite f_hearing_court_hour f_hearing_acts f_hearing_reason f_hearing_firstOffAct f_hearing_firstOffWitness) : Met l yX8_done v_X8_done ({ frames := 7, cells := 0, slots := 0, locals := 161 } : Room) (va_Pc [.ref h] (zPre D (zT cI cC cZ) sz (cw_X8_done cI cC h h_world h_world_court h_world_court_places h_world_court_creams h_pad h_pad_signs h_hearing h_hearing_court h_hearing_court_places h_hearing_court_creams g_images g_bowls g_guesses g_world_town g_world_sights f_world_court_places f_world_court_creams f_world_court_present f_world_court_lying f_world_court_his f_world_court_power f_world_court_spite f_world_court_hour f_pad_signs f_pad_count f_hearing_court_places f_hearing_court_creams f_hearing_court_present f_hearing_court_lying f_hearing_court_his f_hearing_court_power f_hearing_court_spite f_hearing_court_hour f_hearing_acts f_hearing_reason f_hearing_firstOffAct f_hearing_firstOffWitness))) (q_X8_done D cI cC h h_world h_world_court h_world_court_places h_world_court_creams h_pad h_pad_signs h_hearing h_hearing_court h_hearing_court_places h_hearing_court_creams g_images g_bowls g_guesses g_world_town g_world_sights post f_pad_signs (va_A (cw_X8_done cI cC h h_world h_world_court h_world_court_places h_world_court_creams h_pad h_pad_signs h_hearing h_hearing_court h_hearing_court_places h_hearing_court_creams g_images g_bowls g_guesses g_world_town g_world_sights f_world_court_places f_world_court_creams f_world_court_present f_world_court_lying f_world_court_his f_world_court_power f_world_court_spite f_world_court_hour f_pad_signs f_pad_count f_hearing_court_places f_hearing_court_creams f_hearing_court_present f_hearing_court_lying f_hearing_court_his f_hearing_court_power f_hearing_court_spite f_hearing_court_hour f_hearing_acts f_hearing_reason f_hearing_firstOffAct f_hearing_firstOffWitness) sz)) 0 0 (va_A (cw_X8_done cI cC h h_world h_world_court h_world_court_places h_world_court_creams h_pad h_pad_signs h_hearing h_hearing_court h_hearing_court_places h_hearing_court_creams g_images g_bowls g_guesses g_world_town g_world_sights f_world_court_places f_world_court_creams f_world_court_present f_world_court_lying f_world_court_his f_world_court_power f_world_court_spite f_world_court_hour f_pad_signs f_pad_count f_hearing_court_places f_hearing_court_creams f_hearing_court_present f_hearing_court_lying f_hearing_court_his f_hearing_court_power f_hearing_court_spite f_hearing_court_hour f_hearing_acts f_hearing_reason f_hearing_firstOffAct f_hearing_firstOffWitness) sz) := by
  refine Met.ofW (cc := cX8_done) (maxL := 1) (ret := (some .int)) (by decide) rfl ?_
  intro p e s m args below meth c s₁ B hml hv
  obtain ⟨rfl, hsz, hP, hK, hD0⟩ := hv
  subst hsz
  have hx := B.exec
  have hb := B.bytes
  have hr := B.returns
  have hz : ∀ w ∈ zB, w.before _ s = true := fun w h => atoms_spec (ws := v_X8_done) B.pre w (List.mem_cons_of_mem _ h)
  have hown : s.vm.findClass RX8 = some m.cls := findClass_of_methodNamed B.named
  have hlocks := B.notSynchronized
  have hF : CallFix p m c cX8_done 1 s (([.ref h] : List Value).toArray) zB RX8 := ⟨hx, hb, hml, hown, hz⟩
  have hD := hD0.self (sz := s.heap.size)
  generalize hAe : va_A (cw_X8_done cI cC h h_world h_world_court h_world_court_places h_world_court_creams h_pad h_pad_signs h_hearing h_hearing_court h_hearing_court_places h_hearing_court_creams g_images g_bowls g_guesses g_world_town g_world_sights f_world_court_places f_world_court_creams f_world_court_present f_world_court_lying f_world_court_his f_world_court_power f_world_court_spite f_world_court_hour f_pad_signs f_pad_count f_hearing_court_places f_hearing_court_creams f_hearing_court_present f_hearing_court_lying f_hearing_court_his f_hearing_court_power f_hearing_court_spite f_hearing_court_hour f_hearing_acts f_hearing_reason f_hearing_firstOffAct f_hearing_firstOffWitness) s.heap.size = A at hD ⊢
  have hA : ∀ q : Nat, s.heap.size ≤ q → A q := fun q h => by rw [← hAe]; exact Or.inr h
  have hS : va_S A s.heap s.heap [] := va_S.rf
  have hP : va_P D vwCl (cw_X8_done cI cC h h_world h_world_court h_world_court_places h_world_court_creams h_pad h_pad_signs h_hearing h_hearing_court h_hearing_court_places h_hearing_court_creams g_images g_bowls g_guesses g_world_town g_world_sights f_world_court_places f_world_court_creams f_world_court_present f_world_court_lying f_world_court_his f_world_court_power f_world_court_spite f_world_court_hour f_pad_signs f_pad_count f_hearing_court_places f_hearing_court_creams f_hearing_court_present f_hearing_court_lying f_hearing_court_his f_hearing_court_power f_hearing_court_spite f_hearing_court_hour f_hearing_acts f_hearing_reason f_hearing_firstOffAct f_hearing_firstOffWitness) s.heap := hP
  have hl := lv_entry ([.ref h]) (n := 1) (Nat.le_of_ble_eq_true rfl)
  rw [lg_entry_eq]
  generalize (lg_sl ([.ref h]) ++ List.replicate (1 - (lg_sl ([.ref h])).length) Slot.unset).toArray = ls at hl ⊢
  have hl : lv_has ls 1 [(0, .ref h)] := hl
  unfold w_X8_done at hw
  refine lv_aload_n hx hb dX8_done_0 rfl (lv_at hl 0 rfl) ?_
  refine va_get (D := D) (ci := 8) (v := .ref h_hearing) (C := RX8) (T := TX8) (N := 6) hx hb hz hX_X8 hown hK.1 hP 0 rfl rfl 3 (by decide) (hz _ z1_186) (fun _ h9 => h9) rfl dX8_done_1 ?_
  refine lv_aload_n hx hb dX8_done_4 rfl (lv_at hl 0 rfl) ?_
  refine va_get (D := D) (ci := 8) (v := .ref h_world) (C := RX8) (T := TX8) (N := 6) hx hb hz hX_X8 hown hK.1 hP 0 rfl rfl 0 (by decide) (hz _ z1_183) (fun _ h9 => h9) rfl dX8_done_5 ?_
  refine va_getN (D := D) (ci := 7) (v := .ref h_world_court) (C := RX7) (T := TX7) (N := 3) hx hb hz hX_X7 hown hK.1 hP 1 rfl rfl 0 (by decide) (va_Nw.use rfl (hK.2.1 _ (List.mem_of_getElem? (i := 7) rfl))) (fun _ h9 => h9) rfl dX8_done_8 ?_
  refine lv_aload_n hx hb dX8_done_11 rfl (lv_at hl 0 rfl) ?_
  refine va_get (D := D) (ci := 8) (v := .ref h_pad) (C := RX8) (T := TX8) (N := 6) hx hb hz hX_X8 hown hK.1 hP 0 rfl rfl 2 (by decide) (hz _ z1_185) (fun _ h9 => h9) rfl dX8_done_12 ?_
  refine z_rv (z_runV (As := [.ref h_world_court, .ref h_pad]) (rest := []) hF (c_X3_hear l D cI cC cZ h_hearing h_hearing_court h_hearing_court_places h_hearing_court_creams h_world_court h_world_court_places h_world_court_creams h_pad h_pad_signs f_hearing_court_places f_hearing_court_creams f_hearing_court_present f_hearing_court_lying f_hearing_court_his f_hearing_court_power f_hearing_court_spite f_hearing_court_hour f_hearing_acts f_hearing_reason f_hearing_firstOffAct f_hearing_firstOffWitness f_world_court_places f_world_court_creams f_world_court_present f_world_court_lying f_world_court_his f_world_court_power f_world_court_spite f_world_court_hour f_pad_signs f_pad_count _ _ hw) (cwV 2 hz (z_gV z2_57 z2_58 z2_59 z1_7 z2_60) rfl rfl rfl hd_X3_hear ⟨Nat.le_of_ble_eq_true rfl, Nat.le_of_ble_eq_true rfl⟩) hK hP hD [7, 8, 9, 10, 2, 3, 4, 5, 6] rfl rfl 7 3 rfl rfl rfl rfl hl.1 rfl (Nat.le_of_ble_eq_true rfl) dX8_done_15 ⟨Nat.zero_le _, Nat.zero_le _⟩) hP hD hS hA [7, 8, 9, 10, 2, 3, 4, 5, 6] rfl (fun _ => rfl) (fun u => cw_X8_done cI cC h h_world h_world_court h_world_court_places h_world_court_creams h_pad h_pad_signs h_hearing h_hearing_court h_hearing_court_places h_hearing_court_creams g_images g_bowls g_guesses g_world_town g_world_sights f_world_court_places f_world_court_creams f_world_court_present f_world_court_lying f_world_court_his f_world_court_power f_world_court_spite f_world_court_hour f_pad_signs f_pad_count u.1 u.2.1 u.2.2.1 u.2.2.2.1 u.2.2.2.2.1 u.2.2.2.2.2.1 u.2.2.2.2.2.2.1 u.2.2.2.2.2.2.2.1 u.2.2.2.2.2.2.2.2.1 u.2.2.2.2.2.2.2.2.2.1 u.2.2.2.2.2.2.2.2.2.2.1 u.2.2.2.2.2.2.2.2.2.2.2) (fun _ => rfl) (fun u15 H locs hw hP hD hS => ?_)
  obtain ⟨u15_0, u15_1, u15_2, u15_3, u15_4, u15_5, u15_6, u15_7, u15_8, u15_9, u15_10, u15_11⟩ := u15
  try dsimp only at hw
  have hP : va_P D vwCl (cw_X8_done cI cC h h_world h_world_court h_world_court_places h_world_court_creams h_pad h_pad_signs h_hearing h_hearing_court h_hearing_court_places h_hearing_court_creams g_images g_bowls g_guesses g_world_town g_world_sights f_world_court_places f_world_court_creams f_world_court_present f_world_court_lying f_world_court_his f_world_court_power f_world_court_spite f_world_court_hour f_pad_signs f_pad_count u15_0 u15_1 u15_2 u15_3 u15_4 u15_5 u15_6 u15_7 u15_8 u15_9 u15_10 u15_11) H := hP
  have hD : va_D A (cw_X8_done cI cC h h_world h_world_court h_world_court_places h_world_court_creams h_pad h_pad_signs h_hearing h_hearing_court h_hearing_court_places h_hearing_court_creams g_images g_bowls g_guesses g_world_town g_world_sights f_world_court_places f_world_court_creams f_world_court_present f_world_court_lying f_world_court_his f_world_court_power f_world_court_spite f_world_court_hour f_pad_signs f_pad_count u15_0 u15_1 u15_2 u15_3 u15_4 u15_5 u15_6 u15_7 u15_8 u15_9 u15_10 u15_11) := hD
  refine lv_aload_n hx hb dX8_done_18 rfl (lv_at hl 0 rfl) ?_
  refine va_get (D := D) (ci := 8) (v := .ref h_hearing) (C := RX8) (T := TX8) (N := 6) hx hb hz hX_X8 hown hK.1 hP 0 rfl rfl 3 (by decide) (hz _ z1_186) (fun _ h9 => h9) rfl dX8_done_19 ?_
  refine va_getN (D := D) (ci := 3) (v := .int u15_9) (C := RX3) (T := TX3) (N := 5) hx hb hz hX_X3 hown hK.1 hP 7 rfl rfl 2 (by decide) (va_Nw.use rfl (hK.2.1 _ (List.mem_of_getElem? (i := 14) rfl))) (fun _ h9 => h9) rfl dX8_done_22 ?_
  refine lv_if_eq (tgt := 31) hx hb dX8_done_25 (by decide) (fun c25 => ?_) (fun c25 => ?_)
  · have hw := hw.1 c25
    refine lv_aload_n hx hb dX8_done_31 rfl (lv_at hl 0 rfl) ?_
    refine va_get (D := D) (ci := 8) (v := .ref h_world) (C := RX8) (T := TX8) (N := 6) hx hb hz hX_X8 hown hK.1 hP 0 rfl rfl 0 (by decide) (hz _ z1_183) (fun _ h9 => h9) rfl dX8_done_32 ?_
    refine va_getN (D := D) (ci := 7) (v := .ref h_world_court) (C := RX7) (T := TX7) (N := 3) hx hb hz hX_X7 hown hK.1 hP 1 rfl rfl 0 (by decide) (va_Nw.use rfl (hK.2.1 _ (List.mem_of_getElem? (i := 7) rfl))) (fun _ h9 => h9) rfl dX8_done_35 ?_
    refine lv_aload_n hx hb dX8_done_38 rfl (lv_at hl 0 rfl) ?_
    refine va_get (D := D) (ci := 8) (v := .ref h_hearing) (C := RX8) (T := TX8) (N := 6) hx hb hz hX_X8 hown hK.1 hP 0 rfl rfl 3 (by decide) (hz _ z1_186) (fun _ h9 => h9) rfl dX8_done_39 ?_
    refine va_getN (D := D) (ci := 3) (v := .ref h_hearing_court) (C := RX3) (T := TX3) (N := 5) hx hb hz hX_X3 hown hK.1 hP 7 rfl rfl 0 (by decide) (va_Nw.use rfl (hK.2.1 _ (List.mem_of_getElem? (i := 12) rfl))) (fun _ h9 => h9) rfl dX8_done_42 ?_
    refine z_rv (z_runV (As := [.ref h_hearing_court]) (rest := []) hF (c_X1_become l D cI cC cZ h_world_court h_world_court_places h_world_court_creams h_hearing_court h_hearing_court_places h_hearing_court_creams f_world_court_places f_world_court_creams f_world_court_present f_world_court_lying f_world_court_his f_world_court_power f_world_court_spite f_world_court_hour u15_0 u15_1 u15_2 u15_3 u15_4 u15_5 u15_6 u15_7 _ _ hw) (cwV 1 hz (z_gV z2_156 z2_66 z2_67 z1_3 z2_68) rfl rfl rfl hd_X1_become ⟨Nat.le_of_ble_eq_true rfl, Nat.le_of_ble_eq_true rfl⟩) hK hP hD [2, 3, 4, 8, 9, 10] rfl rfl 2 1 rfl rfl rfl rfl hl.1 rfl (Nat.le_of_ble_eq_true rfl) dX8_done_45 ⟨Nat.zero_le _, Nat.zero_le _⟩) hP hD hS hA [2, 3, 4, 8, 9, 10] rfl (fun _ => rfl) (fun u => cw_X8_done cI cC h h_world h_world_court h_world_court_places h_world_court_creams h_pad h_pad_signs h_hearing h_hearing_court h_hearing_court_places h_hearing_court_creams g_images g_bowls g_guesses g_world_town g_world_sights u.1 u.2.1 u.2.2.1 u.2.2.2.1 u.2.2.2.2.1 u.2.2.2.2.2.1 u.2.2.2.2.2.2.1 u.2.2.2.2.2.2.2 f_pad_signs f_pad_count u15_0 u15_1 u15_2 u15_3 u15_4 u15_5 u15_6 u15_7 u15_8 u15_9 u15_10 u15_11) (fun _ => rfl) (fun u45 H locs hw hP hD hS => ?_)
    obtain ⟨u45_0, u45_1, u45_2, u45_3, u45_4, u45_5, u45_6, u45_7⟩ := u45
    try dsimp only at hw
    have hP : va_P D vwCl (cw_X8_done cI cC h h_world h_world_court h_world_court_places h_world_court_creams h_pad h_pad_signs h_hearing h_hearing_court h_hearing_court_places h_hearing_court_creams g_images g_bowls g_guesses g_world_town g_world_sights u45_0 u45_1 u45_2 u45_3 u45_4 u45_5 u45_6 u45_7 f_pad_signs f_pad_count u15_0 u15_1 u15_2 u15_3 u15_4 u15_5 u15_6 u15_7 u15_8 u15_9 u15_10 u15_11) H := hP
    have hD : va_D A (cw_X8_done cI cC h h_world h_world_court h_world_court_places h_world_court_creams h_pad h_pad_signs h_hearing h_hearing_court h_hearing_court_places h_hearing_court_creams g_images g_bowls g_guesses g_world_town g_world_sights u45_0 u45_1 u45_2 u45_3 u45_4 u45_5 u45_6 u45_7 f_pad_signs f_pad_count u15_0 u15_1 u15_2 u15_3 u15_4 u15_5 u15_6 u15_7 u15_8 u15_9 u15_10 u15_11) := hD
    refine lv_aload_n hx hb dX8_done_48 rfl (lv_at hl 0 rfl) ?_
    refine va_get (D := D) (ci := 8) (v := .ref h_pad) (C := RX8) (T := TX8) (N := 6) hx hb hz hX_X8 hown hK.1 hP 0 rfl rfl 2 (by decide) (hz _ z1_185) (fun _ h9 => h9) rfl dX8_done_49 ?_
    refine lv_iconst (v := (0 : Int32)) hx hb dX8_done_52 (by decide) ?_
    refine va_putN (D := D) (ci := 4) (v := .int (0 : Int32)) (ty := .int) (C := RX4) (T := TX4) (N := 2) hx hb hz hX_X4 tyX4 tyX4_ok nmX4 hown hK.1 hP hD hS 5 rfl rfl 1 (by decide) (va_Nw.use rfl (hK.2.1 _ (List.mem_of_getElem? (i := 11) rfl))) (fun _ h9 => h9) rfl (tyX4_ok 1 (by decide)) rfl rfl (Nat.le_of_ble_eq_true rfl) dX8_done_53 (fun H locs hP hD hS => ?_)
    have hP : va_P D vwCl (cw_X8_done cI cC h h_world h_world_court h_world_court_places h_world_court_creams h_pad h_pad_signs h_hearing h_hearing_court h_hearing_court_places h_hearing_court_creams g_images g_bowls g_guesses g_world_town g_world_sights u45_0 u45_1 u45_2 u45_3 u45_4 u45_5 u45_6 u45_7 f_pad_signs (0 : Int32) u15_0 u15_1 u15_2 u15_3 u15_4 u15_5 u15_6 u15_7 u15_8 u15_9 u15_10 u15_11) H := hP
    have hD : va_D A (cw_X8_done cI cC h h_world h_world_court h_world_court_places h_world_court_creams h_pad h_pad_signs h_hearing h_hearing_court h_hearing_court_places h_hearing_court_creams g_images g_bowls g_guesses g_world_town g_world_sights u45_0 u45_1 u45_2 u45_3 u45_4 u45_5 u45_6 u45_7 f_pad_signs (0 : Int32) u15_0 u15_1 u15_2 u15_3 u15_4 u15_5 u15_6 u15_7 u15_8 u15_9 u15_10 u15_11) := hD
    refine lv_aload_n hx hb dX8_done_56 rfl (lv_at hl 0 rfl) ?_
    refine va_get (D := D) (ci := 8) (v := .ref h_hearing) (C := RX8) (T := TX8) (N := 6) hx hb hz hX_X8 hown hK.1 hP 0 rfl rfl 3 (by decide) (hz _ z1_186) (fun _ h9 => h9) rfl dX8_done_57 ?_
    refine va_getN (D := D) (ci := 3) (v := .int u15_8) (C := RX3) (T := TX3) (N := 5) hx hb hz hX_X3 hown hK.1 hP 7 rfl rfl 1 (by decide) (va_Nw.use rfl (hK.2.1 _ (List.mem_of_getElem? (i := 13) rfl))) (fun _ h9 => h9) rfl dX8_done_60 ?_
    exact z_iret hx hb hr hlocks (u45_0, u45_1, u45_2, u45_3, u45_4, u45_5, u45_6, u45_7, (0 : Int32), u15_0, u15_1, u15_2, u15_3, u15_4, u15_5, u15_6, u15_7, u15_8, u15_9, u15_10, u15_11) hw hP hS dX8_done_63
  have hw := hw.2 c25
  refine lv_bipush (v := (-5 : Int32)) hx hb dX8_done_28 (by decide) ?_
  exact z_iret hx hb hr hlocks (f_world_court_places, f_world_court_creams, f_world_court_present, f_world_court_lying, f_world_court_his, f_world_court_power, f_world_court_spite, f_world_court_hour, f_pad_count, u15_0, u15_1, u15_2, u15_3, u15_4, u15_5, u15_6, u15_7, u15_8, u15_9, u15_10, u15_11) hw hP hS dX8_done_30
abbrev cw_X8_asNumber : va_W := []
abbrev q_X8_asNumber (D : va_G) (post : Int32 → Prop) (A : Nat → Prop) : Array Value → State → Outcome → State → Prop := va_Qi (S := Unit) (fun r _ => post r ) (fun _ t => va_P D vwCl (cw_X8_asNumber) t.heap) A
abbrev v_X8_asNumber : List Cond := .code yX8_asNumber cX8_asNumber 1 (some .int) :: zB
theorem hd_X8_asNumber : yX8_asNumber.cls ≠ "java/lang/invoke/MethodHandle" ∧ yX8_asNumber.cls ≠ "java/lang/invoke/VarHandle" ∧ (parseMethodDescriptor yX8_asNumber.desc).map (fun d => d.parameters.length) = some 1 := by decide +kernel
set_option maxHeartbeats 4000000 in
set_option maxRecDepth 100000 in
theorem c_X8_asNumber (l : Launch) (D : va_G) (cI cC cZ : ClassId) (p0 : Int32) (sz : Nat) (post : Int32 → Prop) (hw : w_X8_asNumber post p0) : Met l yX8_asNumber v_X8_asNumber ({ frames := 0, cells := 0, slots := 0, locals := 0 } : Room) (va_Pc [.int p0] (zPre D (zT cI cC cZ) sz (cw_X8_asNumber))) (q_X8_asNumber D post (va_A (cw_X8_asNumber) sz)) 0 0 (va_A (cw_X8_asNumber) sz) := by
  refine Met.ofW (cc := cX8_asNumber) (maxL := 1) (ret := (some .int)) (by decide) rfl ?_
  intro p e s m args below meth c s₁ B hml hv
  obtain ⟨rfl, hsz, hP, hK, hD0⟩ := hv
  subst hsz
  have hx := B.exec
  have hb := B.bytes
  have hr := B.returns
  have hz : ∀ w ∈ zB, w.before _ s = true := fun w h => atoms_spec (ws := v_X8_asNumber) B.pre w (List.mem_cons_of_mem _ h)
  have hown : s.vm.findClass RX8 = some m.cls := findClass_of_methodNamed B.named
  have hlocks := B.notSynchronized
  have hF : CallFix p m c cX8_asNumber 1 s (([.int p0] : List Value).toArray) zB RX8 := ⟨hx, hb, hml, hown, hz⟩
  have hD := hD0.self (sz := s.heap.size)
  generalize hAe : va_A (cw_X8_asNumber) s.heap.size = A at hD ⊢
  have hA : ∀ q : Nat, s.heap.size ≤ q → A q := fun q h => by rw [← hAe]; exact Or.inr h
  have hS : va_S A s.heap s.heap [] := va_S.rf
  have hP : va_P D vwCl (cw_X8_asNumber) s.heap := hP
  have hl := lv_entry ([.int p0]) (n := 1) (Nat.le_of_ble_eq_true rfl)
  rw [lg_entry_eq]
  generalize (lg_sl ([.int p0]) ++ List.replicate (1 - (lg_sl ([.int p0])).length) Slot.unset).toArray = ls at hl ⊢
  have hl : lv_has ls 1 [(0, .int p0)] := hl
  unfold w_X8_asNumber at hw
  refine lv_iload_n hx hb dX8_asNumber_0 rfl (lv_at hl 0 rfl) ?_
  refine lv_if_eq (tgt := 8) hx hb dX8_asNumber_1 (by decide) (fun c1 => ?_) (fun c1 => ?_)
  · have hw := hw.1 c1
    refine lv_iconst (v := (0 : Int32)) hx hb dX8_asNumber_8 (by decide) ?_
    exact z_iret hx hb hr hlocks () hw hP hS dX8_asNumber_9
  have hw := hw.2 c1
  refine lv_iconst (v := (1 : Int32)) hx hb dX8_asNumber_4 (by decide) ?_
  refine lv_goto (tgt := 9) hx hb dX8_asNumber_5 (by decide) ?_
  exact z_iret hx hb hr hlocks () hw hP hS dX8_asNumber_9
abbrev cw_X8_behind (cI cC : ClassId) (h h_world h_world_court h_world_court_places h_world_court_creams h_pad h_pad_signs h_hearing h_hearing_court h_hearing_court_places h_hearing_court_creams : Nat) (g_images g_bowls g_guesses g_world_town g_world_sights : Value) (f_world_court_places : Nat → Int32) (f_world_court_creams : Nat → Int32) (f_world_court_present : Int32) (f_world_court_lying : Int32) (f_world_court_his : Int32) (f_world_court_power : Int32) (f_world_court_spite : Int32) (f_world_court_hour : Int32) (f_pad_signs : Nat → Int32) (f_pad_count : Int32) (f_hearing_court_places : Nat → Int32) (f_hearing_court_creams : Nat → Int32) (f_hearing_court_present : Int32) (f_hearing_court_lying : Int32) (f_hearing_court_his : Int32) (f_hearing_court_power : Int32) (f_hearing_court_spite : Int32) (f_hearing_court_hour : Int32) (f_hearing_acts : Int32) (f_hearing_reason : Int32) (f_hearing_firstOffAct : Int32) (f_hearing_firstOffWitness : Int32) : va_W := [(h, .inr (8, [.ref h_world, g_images, .ref h_pad, .ref h_hearing, g_bowls, g_guesses])), (h_world, .inr (7, [.ref h_world_court, g_world_town, g_world_sights])), (h_world_court, .inr (1, [.ref h_world_court_places, .ref h_world_court_creams, .int f_world_court_present, .int f_world_court_lying, .int f_world_court_his, .int f_world_court_power, .int f_world_court_spite, .int f_world_court_hour])), (h_world_court_places, .inl (cI, 8, .inl f_world_court_places)), (h_world_court_creams, .inl (cI, 8, .inl f_world_court_creams)), (h_pad, .inr (4, [.ref h_pad_signs, .int f_pad_count])), (h_pad_signs, .inl (cC, 60, .inl f_pad_signs)), (h_hearing, .inr (3, [.ref h_hearing_court, .int f_hearing_acts, .int f_hearing_reason, .int f_hearing_firstOffAct, .int f_hearing_firstOffWitness])), (h_hearing_court, .inr (1, [.ref h_hearing_court_places, .ref h_hearing_court_creams, .int f_hearing_court_present, .int f_hearing_court_lying, .int f_hearing_court_his, .int f_hearing_court_power, .int f_hearing_court_spite, .int f_hearing_court_hour])), (h_hearing_court_places, .inl (cI, 8, .inl f_hearing_court_places)), (h_hearing_court_creams, .inl (cI, 8, .inl f_hearing_court_creams))]
abbrev q_X8_behind (D : va_G) (cI cC : ClassId) (h h_world h_world_court h_world_court_places h_world_court_creams h_pad h_pad_signs h_hearing h_hearing_court h_hearing_court_places h_hearing_court_creams : Nat) (g_images g_bowls g_guesses g_world_town g_world_sights : Value) (post : Int32 → (Nat → Int32) → (Nat → Int32) → Int32 → Int32 → Int32 → Int32 → Int32 → Int32 → Int32 → Int32 → Int32 → Int32 → Prop) (f_world_court_places : Nat → Int32) (f_world_court_creams : Nat → Int32) (f_world_court_present : Int32) (f_world_court_lying : Int32) (f_world_court_his : Int32) (f_world_court_power : Int32) (f_world_court_spite : Int32) (f_world_court_hour : Int32) (f_pad_signs : Nat → Int32) (f_pad_count : Int32) (A : Nat → Prop) : Array Value → State → Outcome → State → Prop := va_Qi (S := (Nat → Int32) × (Nat → Int32) × Int32 × Int32 × Int32 × Int32 × Int32 × Int32 × Int32 × Int32 × Int32 × Int32) (fun r u => post r u.1 u.2.1 u.2.2.1 u.2.2.2.1 u.2.2.2.2.1 u.2.2.2.2.2.1 u.2.2.2.2.2.2.1 u.2.2.2.2.2.2.2.1 u.2.2.2.2.2.2.2.2.1 u.2.2.2.2.2.2.2.2.2.1 u.2.2.2.2.2.2.2.2.2.2.1 u.2.2.2.2.2.2.2.2.2.2.2) (fun u t => va_P D vwCl (cw_X8_behind cI cC h h_world h_world_court h_world_court_places h_world_court_creams h_pad h_pad_signs h_hearing h_hearing_court h_hearing_court_places h_hearing_court_creams g_images g_bowls g_guesses g_world_town g_world_sights f_world_court_places f_world_court_creams f_world_court_present f_world_court_lying f_world_court_his f_world_court_power f_world_court_spite f_world_court_hour f_pad_signs f_pad_count u.1 u.2.1 u.2.2.1 u.2.2.2.1 u.2.2.2.2.1 u.2.2.2.2.2.1 u.2.2.2.2.2.2.1 u.2.2.2.2.2.2.2.1 u.2.2.2.2.2.2.2.2.1 u.2.2.2.2.2.2.2.2.2.1 u.2.2.2.2.2.2.2.2.2.2.1 u.2.2.2.2.2.2.2.2.2.2.2) t.heap) A
abbrev v_X8_behind : List Cond := .code yX8_behind cX8_behind 3 (some .int) :: zB
theorem hd_X8_behind : yX8_behind.cls = RX8 ∧ yX8_behind.cls ≠ "java/lang/invoke/MethodHandle" ∧ yX8_behind.cls ≠ "java/lang/invoke/VarHandle" ∧ (parseMethodDescriptor yX8_behind.desc).map (fun d => d.parameters.length) = some 2 := by decide +kernel
set_option maxHeartbeats 4000000 in
set_option maxRecDepth 100000 in
theorem c_X8_behind (l : Launch) (D : va_G) (cI cC cZ : ClassId) (h h_world h_world_court h_world_court_places h_world_court_creams h_pad h_pad_signs h_hearing h_hearing_court h_hearing_court_places h_hearing_court_creams : Nat) (g_images g_bowls g_guesses g_world_town g_world_sights : Value) (f_world_court_places : Nat → Int32) (f_world_court_creams : Nat → Int32) (f_world_court_present : Int32) (f_world_court_lying : Int32) (f_world_court_his : Int32) (f_world_court_power : Int32) (f_world_court_spite : Int32) (f_world_court_hour : Int32) (f_pad_signs : Nat → Int32) (f_pad_count : Int32) (f_hearing_court_places : Nat → Int32) (f_hearing_court_creams : Nat → Int32) (f_hearing_court_present : Int32) (f_hearing_court_lying : Int32) (f_hearing_court_his : Int32) (f_hearing_court_power : Int32) (f_hearing_court_spite : Int32) (f_hearing_court_hour : Int32) (f_hearing_acts : Int32) (f_hearing_reason : Int32) (f_hearing_firstOffAct : Int32) (f_hearing_firstOffWitness : Int32) (p1 : Int32) (p2 : Int32) (sz : Nat) (post : Int32 → (Nat → Int32) → (Nat → Int32) → Int32 → Int32 → Int32 → Int32 → Int32 → Int32 → Int32 → Int32 → Int32 → Int32 → Prop) (hw : w_X8_behind post f_world_court_places f_world_court_creams f_world_court_present f_world_court_lying f_world_court_his f_world_court_power f_world_court_spite f_world_court_hour f_pad_signs f_pad_count f_hearing_court_places f_hearing_court_creams f_hearing_court_present f_hearing_court_lying f_hearing_court_his f_hearing_court_power f_hearing_court_spite f_hearing_court_hour f_hearing_acts f_hearing_reason f_hearing_firstOffAct f_hearing_firstOffWitness p1 p2) : Met l yX8_behind v_X8_behind ({ frames := 7, cells := 0, slots := 0, locals := 161 } : Room) (va_Pc [.ref h, .int p1, .int p2] (zPre D (zT cI cC cZ) sz (cw_X8_behind cI cC h h_world h_world_court h_world_court_places h_world_court_creams h_pad h_pad_signs h_hearing h_hearing_court h_hearing_court_places h_hearing_court_creams g_images g_bowls g_guesses g_world_town g_world_sights f_world_court_places f_world_court_creams f_world_court_present f_world_court_lying f_world_court_his f_world_court_power f_world_court_spite f_world_court_hour f_pad_signs f_pad_count f_hearing_court_places f_hearing_court_creams f_hearing_court_present f_hearing_court_lying f_hearing_court_his f_hearing_court_power f_hearing_court_spite f_hearing_court_hour f_hearing_acts f_hearing_reason f_hearing_firstOffAct f_hearing_firstOffWitness))) (q_X8_behind D cI cC h h_world h_world_court h_world_court_places h_world_court_creams h_pad h_pad_signs h_hearing h_hearing_court h_hearing_court_places h_hearing_court_creams g_images g_bowls g_guesses g_world_town g_world_sights post f_world_court_places f_world_court_creams f_world_court_present f_world_court_lying f_world_court_his f_world_court_power f_world_court_spite f_world_court_hour f_pad_signs f_pad_count (va_A (cw_X8_behind cI cC h h_world h_world_court h_world_court_places h_world_court_creams h_pad h_pad_signs h_hearing h_hearing_court h_hearing_court_places h_hearing_court_creams g_images g_bowls g_guesses g_world_town g_world_sights f_world_court_places f_world_court_creams f_world_court_present f_world_court_lying f_world_court_his f_world_court_power f_world_court_spite f_world_court_hour f_pad_signs f_pad_count f_hearing_court_places f_hearing_court_creams f_hearing_court_present f_hearing_court_lying f_hearing_court_his f_hearing_court_power f_hearing_court_spite f_hearing_court_hour f_hearing_acts f_hearing_reason f_hearing_firstOffAct f_hearing_firstOffWitness) sz)) 0 0 (va_A (cw_X8_behind cI cC h h_world h_world_court h_world_court_places h_world_court_creams h_pad h_pad_signs h_hearing h_hearing_court h_hearing_court_places h_hearing_court_creams g_images g_bowls g_guesses g_world_town g_world_sights f_world_court_places f_world_court_creams f_world_court_present f_world_court_lying f_world_court_his f_world_court_power f_world_court_spite f_world_court_hour f_pad_signs f_pad_count f_hearing_court_places f_hearing_court_creams f_hearing_court_present f_hearing_court_lying f_hearing_court_his f_hearing_court_power f_hearing_court_spite f_hearing_court_hour f_hearing_acts f_hearing_reason f_hearing_firstOffAct f_hearing_firstOffWitness) sz) := by
  refine Met.ofW (cc := cX8_behind) (maxL := 3) (ret := (some .int)) (by decide) rfl ?_
  intro p e s m args below meth c s₁ B hml hv
  obtain ⟨rfl, hsz, hP, hK, hD0⟩ := hv
  subst hsz
  have hx := B.exec
  have hb := B.bytes
  have hr := B.returns
  have hz : ∀ w ∈ zB, w.before _ s = true := fun w h => atoms_spec (ws := v_X8_behind) B.pre w (List.mem_cons_of_mem _ h)
  have hown : s.vm.findClass RX8 = some m.cls := findClass_of_methodNamed B.named
  have hlocks := B.notSynchronized
  have hF : CallFix p m c cX8_behind 3 s (([.ref h, .int p1, .int p2] : List Value).toArray) zB RX8 := ⟨hx, hb, hml, hown, hz⟩
  have hD := hD0.self (sz := s.heap.size)
  generalize hAe : va_A (cw_X8_behind cI cC h h_world h_world_court h_world_court_places h_world_court_creams h_pad h_pad_signs h_hearing h_hearing_court h_hearing_court_places h_hearing_court_creams g_images g_bowls g_guesses g_world_town g_world_sights f_world_court_places f_world_court_creams f_world_court_present f_world_court_lying f_world_court_his f_world_court_power f_world_court_spite f_world_court_hour f_pad_signs f_pad_count f_hearing_court_places f_hearing_court_creams f_hearing_court_present f_hearing_court_lying f_hearing_court_his f_hearing_court_power f_hearing_court_spite f_hearing_court_hour f_hearing_acts f_hearing_reason f_hearing_firstOffAct f_hearing_firstOffWitness) s.heap.size = A at hD ⊢
  have hA : ∀ q : Nat, s.heap.size ≤ q → A q := fun q h => by rw [← hAe]; exact Or.inr h
  have hS : va_S A s.heap s.heap [] := va_S.rf
  have hP : va_P D vwCl (cw_X8_behind cI cC h h_world h_world_court h_world_court_places h_world_court_creams h_pad h_pad_signs h_hearing h_hearing_court h_hearing_court_places h_hearing_court_creams g_images g_bowls g_guesses g_world_town g_world_sights f_world_court_places f_world_court_creams f_world_court_present f_world_court_lying f_world_court_his f_world_court_power f_world_court_spite f_world_court_hour f_pad_signs f_pad_count f_hearing_court_places f_hearing_court_creams f_hearing_court_present f_hearing_court_lying f_hearing_court_his f_hearing_court_power f_hearing_court_spite f_hearing_court_hour f_hearing_acts f_hearing_reason f_hearing_firstOffAct f_hearing_firstOffWitness) s.heap := hP
  have hl := lv_entry ([.ref h, .int p1, .int p2]) (n := 3) (Nat.le_of_ble_eq_true rfl)
  rw [lg_entry_eq]
  generalize (lg_sl ([.ref h, .int p1, .int p2]) ++ List.replicate (3 - (lg_sl ([.ref h, .int p1, .int p2])).length) Slot.unset).toArray = ls at hl ⊢
  have hl : lv_has ls 3 [(0, .ref h), (1, .int p1), (2, .int p2)] := hl
  unfold w_X8_behind at hw
  refine lv_aload_n hx hb dX8_behind_0 rfl (lv_at hl 0 rfl) ?_
  refine va_get (D := D) (ci := 8) (v := .ref h_world) (C := RX8) (T := TX8) (N := 6) hx hb hz hX_X8 hown hK.1 hP 0 rfl rfl 0 (by decide) (hz _ z1_183) (fun _ h9 => h9) rfl dX8_behind_1 ?_
  refine va_getN (D := D) (ci := 7) (v := .ref h_world_court) (C := RX7) (T := TX7) (N := 3) hx hb hz hX_X7 hown hK.1 hP 1 rfl rfl 0 (by decide) (va_Nw.use rfl (hK.2.1 _ (List.mem_of_getElem? (i := 7) rfl))) (fun _ h9 => h9) rfl dX8_behind_4 ?_
  refine lv_iload_n hx hb dX8_behind_7 rfl (lv_at hl 1 rfl) ?_
  refine z_ri (z_runV (As := [.int p1]) (rest := []) hF (c_X1_has l D cI cC cZ h_world_court (.ref h_world_court_places) (.ref h_world_court_creams) (.int f_world_court_lying) (.int f_world_court_his) (.int f_world_court_power) (.int f_world_court_spite) (.int f_world_court_hour) f_world_court_present p1 _ _ hw) (cwV 1 hz (z_gV z2_161 z2_91 z2_92 z1_3 z2_93) rfl rfl rfl hd_X1_has ⟨Nat.le_of_ble_eq_true rfl, Nat.le_of_ble_eq_true rfl⟩) hK hP hD [2] rfl rfl 2 1 rfl rfl rfl rfl hl.1 rfl (Nat.le_of_ble_eq_true rfl) dX8_behind_8 ⟨Nat.zero_le _, Nat.zero_le _⟩) hP hD hS hA [2] rfl (fun _ => rfl) (fun _ => cw_X8_behind cI cC h h_world h_world_court h_world_court_places h_world_court_creams h_pad h_pad_signs h_hearing h_hearing_court h_hearing_court_places h_hearing_court_creams g_images g_bowls g_guesses g_world_town g_world_sights f_world_court_places f_world_court_creams f_world_court_present f_world_court_lying f_world_court_his f_world_court_power f_world_court_spite f_world_court_hour f_pad_signs f_pad_count f_hearing_court_places f_hearing_court_creams f_hearing_court_present f_hearing_court_lying f_hearing_court_his f_hearing_court_power f_hearing_court_spite f_hearing_court_hour f_hearing_acts f_hearing_reason f_hearing_firstOffAct f_hearing_firstOffWitness) (fun _ => rfl) (fun r8 u8 H locs hw hP hD hS => ?_)
  obtain ⟨hn8, hw⟩ := hw
  try dsimp only at hw
  refine lv_if_ne (tgt := 16) hx hb dX8_behind_11 (by decide) (fun c11 => ?_) (fun c11 => ?_)
  · have hw := hw.2 c11
    refine lv_iload_n hx hb dX8_behind_16 rfl (lv_at hl 2 rfl) ?_
    refine lv_iconst (v := (0 : Int32)) hx hb dX8_behind_17 (by decide) ?_
    refine lv_iconst (v := (1 : Int32)) hx hb dX8_behind_18 (by decide) ?_
    refine z_ri (z_runS (As := [.int p2, .int (0 : Int32), .int (1 : Int32)]) (rest := []) hF (c_X8_within l D cI cC cZ p2 (0 : Int32) (1 : Int32) _ _ hw) (va_cwS 3 hz (z_gS z1_212 z1_213 z1_1 z1_214) rfl rfl rfl hd_X8_within ⟨Nat.le_of_ble_eq_true rfl, Nat.le_of_ble_eq_true rfl⟩) hK hP hD [] rfl rfl rfl hl.1 rfl (Nat.le_of_ble_eq_true rfl) dX8_behind_19 ⟨Nat.zero_le _, Nat.zero_le _⟩) hP hD hS hA [] rfl (fun _ => rfl) (fun _ => cw_X8_behind cI cC h h_world h_world_court h_world_court_places h_world_court_creams h_pad h_pad_signs h_hearing h_hearing_court h_hearing_court_places h_hearing_court_creams g_images g_bowls g_guesses g_world_town g_world_sights f_world_court_places f_world_court_creams f_world_court_present f_world_court_lying f_world_court_his f_world_court_power f_world_court_spite f_world_court_hour f_pad_signs f_pad_count f_hearing_court_places f_hearing_court_creams f_hearing_court_present f_hearing_court_lying f_hearing_court_his f_hearing_court_power f_hearing_court_spite f_hearing_court_hour f_hearing_acts f_hearing_reason f_hearing_firstOffAct f_hearing_firstOffWitness) (fun _ => rfl) (fun r19 u19 H locs hw hP hD hS => ?_)
    obtain ⟨hn19, hw⟩ := hw
    try dsimp only at hw
    refine lv_if_ne (tgt := 28) hx hb dX8_behind_22 (by decide) (fun c22 => ?_) (fun c22 => ?_)
    · have hw := hw.2 c22
      refine lv_aload_n hx hb dX8_behind_28 rfl (lv_at hl 0 rfl) ?_
      refine va_get (D := D) (ci := 8) (v := .ref h_hearing) (C := RX8) (T := TX8) (N := 6) hx hb hz hX_X8 hown hK.1 hP 0 rfl rfl 3 (by decide) (hz _ z1_186) (fun _ h9 => h9) rfl dX8_behind_29 ?_
      refine lv_aload_n hx hb dX8_behind_32 rfl (lv_at hl 0 rfl) ?_
      refine va_get (D := D) (ci := 8) (v := .ref h_world) (C := RX8) (T := TX8) (N := 6) hx hb hz hX_X8 hown hK.1 hP 0 rfl rfl 0 (by decide) (hz _ z1_183) (fun _ h9 => h9) rfl dX8_behind_33 ?_
      refine va_getN (D := D) (ci := 7) (v := .ref h_world_court) (C := RX7) (T := TX7) (N := 3) hx hb hz hX_X7 hown hK.1 hP 1 rfl rfl 0 (by decide) (va_Nw.use rfl (hK.2.1 _ (List.mem_of_getElem? (i := 7) rfl))) (fun _ h9 => h9) rfl dX8_behind_36 ?_
      refine lv_aload_n hx hb dX8_behind_39 rfl (lv_at hl 0 rfl) ?_
      refine va_get (D := D) (ci := 8) (v := .ref h_pad) (C := RX8) (T := TX8) (N := 6) hx hb hz hX_X8 hown hK.1 hP 0 rfl rfl 2 (by decide) (hz _ z1_185) (fun _ h9 => h9) rfl dX8_behind_40 ?_
      refine z_rv (z_runV (As := [.ref h_world_court, .ref h_pad]) (rest := []) hF (c_X3_hear l D cI cC cZ h_hearing h_hearing_court h_hearing_court_places h_hearing_court_creams h_world_court h_world_court_places h_world_court_creams h_pad h_pad_signs f_hearing_court_places f_hearing_court_creams f_hearing_court_present f_hearing_court_lying f_hearing_court_his f_hearing_court_power f_hearing_court_spite f_hearing_court_hour f_hearing_acts f_hearing_reason f_hearing_firstOffAct f_hearing_firstOffWitness f_world_court_places f_world_court_creams f_world_court_present f_world_court_lying f_world_court_his f_world_court_power f_world_court_spite f_world_court_hour f_pad_signs f_pad_count _ _ hw) (cwV 2 hz (z_gV z2_57 z2_58 z2_59 z1_7 z2_60) rfl rfl rfl hd_X3_hear ⟨Nat.le_of_ble_eq_true rfl, Nat.le_of_ble_eq_true rfl⟩) hK hP hD [7, 8, 9, 10, 2, 3, 4, 5, 6] rfl rfl 7 3 rfl rfl rfl rfl hl.1 rfl (Nat.le_of_ble_eq_true rfl) dX8_behind_43 ⟨Nat.zero_le _, Nat.zero_le _⟩) hP hD hS hA [7, 8, 9, 10, 2, 3, 4, 5, 6] rfl (fun _ => rfl) (fun u => cw_X8_behind cI cC h h_world h_world_court h_world_court_places h_world_court_creams h_pad h_pad_signs h_hearing h_hearing_court h_hearing_court_places h_hearing_court_creams g_images g_bowls g_guesses g_world_town g_world_sights f_world_court_places f_world_court_creams f_world_court_present f_world_court_lying f_world_court_his f_world_court_power f_world_court_spite f_world_court_hour f_pad_signs f_pad_count u.1 u.2.1 u.2.2.1 u.2.2.2.1 u.2.2.2.2.1 u.2.2.2.2.2.1 u.2.2.2.2.2.2.1 u.2.2.2.2.2.2.2.1 u.2.2.2.2.2.2.2.2.1 u.2.2.2.2.2.2.2.2.2.1 u.2.2.2.2.2.2.2.2.2.2.1 u.2.2.2.2.2.2.2.2.2.2.2) (fun _ => rfl) (fun u43 H locs hw hP hD hS => ?_)
      obtain ⟨u43_0, u43_1, u43_2, u43_3, u43_4, u43_5, u43_6, u43_7, u43_8, u43_9, u43_10, u43_11⟩ := u43
      try dsimp only at hw
      have hP : va_P D vwCl (cw_X8_behind cI cC h h_world h_world_court h_world_court_places h_world_court_creams h_pad h_pad_signs h_hearing h_hearing_court h_hearing_court_places h_hearing_court_creams g_images g_bowls g_guesses g_world_town g_world_sights f_world_court_places f_world_court_creams f_world_court_present f_world_court_lying f_world_court_his f_world_court_power f_world_court_spite f_world_court_hour f_pad_signs f_pad_count u43_0 u43_1 u43_2 u43_3 u43_4 u43_5 u43_6 u43_7 u43_8 u43_9 u43_10 u43_11) H := hP
      have hD : va_D A (cw_X8_behind cI cC h h_world h_world_court h_world_court_places h_world_court_creams h_pad h_pad_signs h_hearing h_hearing_court h_hearing_court_places h_hearing_court_creams g_images g_bowls g_guesses g_world_town g_world_sights f_world_court_places f_world_court_creams f_world_court_present f_world_court_lying f_world_court_his f_world_court_power f_world_court_spite f_world_court_hour f_pad_signs f_pad_count u43_0 u43_1 u43_2 u43_3 u43_4 u43_5 u43_6 u43_7 u43_8 u43_9 u43_10 u43_11) := hD
      refine lv_aload_n hx hb dX8_behind_46 rfl (lv_at hl 0 rfl) ?_
      refine va_get (D := D) (ci := 8) (v := .ref h_hearing) (C := RX8) (T := TX8) (N := 6) hx hb hz hX_X8 hown hK.1 hP 0 rfl rfl 3 (by decide) (hz _ z1_186) (fun _ h9 => h9) rfl dX8_behind_47 ?_
      refine va_getN (D := D) (ci := 3) (v := .int u43_9) (C := RX3) (T := TX3) (N := 5) hx hb hz hX_X3 hown hK.1 hP 7 rfl rfl 2 (by decide) (va_Nw.use rfl (hK.2.1 _ (List.mem_of_getElem? (i := 14) rfl))) (fun _ h9 => h9) rfl dX8_behind_50 ?_
      refine lv_if_eq (tgt := 59) hx hb dX8_behind_53 (by decide) (fun c53 => ?_) (fun c53 => ?_)
      · have hw := hw.1 c53
        refine lv_aload_n hx hb dX8_behind_59 rfl (lv_at hl 0 rfl) ?_
        refine va_get (D := D) (ci := 8) (v := .ref h_hearing) (C := RX8) (T := TX8) (N := 6) hx hb hz hX_X8 hown hK.1 hP 0 rfl rfl 3 (by decide) (hz _ z1_186) (fun _ h9 => h9) rfl dX8_behind_60 ?_
        refine va_getN (D := D) (ci := 3) (v := .ref h_hearing_court) (C := RX3) (T := TX3) (N := 5) hx hb hz hX_X3 hown hK.1 hP 7 rfl rfl 0 (by decide) (va_Nw.use rfl (hK.2.1 _ (List.mem_of_getElem? (i := 12) rfl))) (fun _ h9 => h9) rfl dX8_behind_63 ?_
        refine lv_iload_n hx hb dX8_behind_66 rfl (lv_at hl 1 rfl) ?_
        refine z_ri (z_runV (As := [.int p1]) (rest := []) hF (c_X1_has l D cI cC cZ h_hearing_court (.ref h_hearing_court_places) (.ref h_hearing_court_creams) (.int u43_3) (.int u43_4) (.int u43_5) (.int u43_6) (.int u43_7) u43_2 p1 _ _ hw) (cwV 1 hz (z_gV z2_161 z2_91 z2_92 z1_3 z2_93) rfl rfl rfl hd_X1_has ⟨Nat.le_of_ble_eq_true rfl, Nat.le_of_ble_eq_true rfl⟩) hK hP hD [8] rfl rfl 8 1 rfl rfl rfl rfl hl.1 rfl (Nat.le_of_ble_eq_true rfl) dX8_behind_67 ⟨Nat.zero_le _, Nat.zero_le _⟩) hP hD hS hA [8] rfl (fun _ => rfl) (fun _ => cw_X8_behind cI cC h h_world h_world_court h_world_court_places h_world_court_creams h_pad h_pad_signs h_hearing h_hearing_court h_hearing_court_places h_hearing_court_creams g_images g_bowls g_guesses g_world_town g_world_sights f_world_court_places f_world_court_creams f_world_court_present f_world_court_lying f_world_court_his f_world_court_power f_world_court_spite f_world_court_hour f_pad_signs f_pad_count u43_0 u43_1 u43_2 u43_3 u43_4 u43_5 u43_6 u43_7 u43_8 u43_9 u43_10 u43_11) (fun _ => rfl) (fun r67 u67 H locs hw hP hD hS => ?_)
        obtain ⟨hn67, hw⟩ := hw
        try dsimp only at hw
        refine lv_if_ne (tgt := 76) hx hb dX8_behind_70 (by decide) (fun c70 => ?_) (fun c70 => ?_)
        · have hw := hw.2 c70
          refine lv_iload_n hx hb dX8_behind_76 rfl (lv_at hl 2 rfl) ?_
          refine lv_if_ne (tgt := 94) hx hb dX8_behind_77 (by decide) (fun c77 => ?_) (fun c77 => ?_)
          · have hw := hw.2 c77
            refine lv_aload_n hx hb dX8_behind_94 rfl (lv_at hl 0 rfl) ?_
            refine va_get (D := D) (ci := 8) (v := .ref h_hearing) (C := RX8) (T := TX8) (N := 6) hx hb hz hX_X8 hown hK.1 hP 0 rfl rfl 3 (by decide) (hz _ z1_186) (fun _ h9 => h9) rfl dX8_behind_95 ?_
            refine va_getN (D := D) (ci := 3) (v := .ref h_hearing_court) (C := RX3) (T := TX3) (N := 5) hx hb hz hX_X3 hown hK.1 hP 7 rfl rfl 0 (by decide) (va_Nw.use rfl (hK.2.1 _ (List.mem_of_getElem? (i := 12) rfl))) (fun _ h9 => h9) rfl dX8_behind_98 ?_
            refine lv_iload_n hx hb dX8_behind_101 rfl (lv_at hl 1 rfl) ?_
            refine z_ri (z_runV (As := [.int p1]) (rest := []) hF (c_X1_isLiar l D cI cC cZ h_hearing_court (.ref h_hearing_court_places) (.ref h_hearing_court_creams) (.int u43_2) (.int u43_4) (.int u43_5) (.int u43_6) (.int u43_7) u43_3 p1 _ _ hw) (cwV 1 hz (z_gV z2_163 z2_126 z2_127 z1_3 z2_128) rfl rfl rfl hd_X1_isLiar ⟨Nat.le_of_ble_eq_true rfl, Nat.le_of_ble_eq_true rfl⟩) hK hP hD [8] rfl rfl 8 1 rfl rfl rfl rfl hl.1 rfl (Nat.le_of_ble_eq_true rfl) dX8_behind_102 ⟨Nat.zero_le _, Nat.zero_le _⟩) hP hD hS hA [8] rfl (fun _ => rfl) (fun _ => cw_X8_behind cI cC h h_world h_world_court h_world_court_places h_world_court_creams h_pad h_pad_signs h_hearing h_hearing_court h_hearing_court_places h_hearing_court_creams g_images g_bowls g_guesses g_world_town g_world_sights f_world_court_places f_world_court_creams f_world_court_present f_world_court_lying f_world_court_his f_world_court_power f_world_court_spite f_world_court_hour f_pad_signs f_pad_count u43_0 u43_1 u43_2 u43_3 u43_4 u43_5 u43_6 u43_7 u43_8 u43_9 u43_10 u43_11) (fun _ => rfl) (fun r102 u102 H locs hw hP hD hS => ?_)
            obtain ⟨hn102, hw⟩ := hw
            try dsimp only at hw
            refine z_ri (z_runS (As := [.int r102]) (rest := []) hF (c_X8_asNumber l D cI cC cZ r102 _ _ hw) (va_cwS 1 hz (z_gS z2_164 z2_165 z1_1 z2_166) rfl rfl rfl hd_X8_asNumber ⟨Nat.le_of_ble_eq_true rfl, Nat.le_of_ble_eq_true rfl⟩) hK hP hD [] rfl rfl rfl hl.1 rfl (Nat.le_of_ble_eq_true rfl) dX8_behind_105 ⟨Nat.zero_le _, Nat.zero_le _⟩) hP hD hS hA [] rfl (fun _ => rfl) (fun _ => cw_X8_behind cI cC h h_world h_world_court h_world_court_places h_world_court_creams h_pad h_pad_signs h_hearing h_hearing_court h_hearing_court_places h_hearing_court_creams g_images g_bowls g_guesses g_world_town g_world_sights f_world_court_places f_world_court_creams f_world_court_present f_world_court_lying f_world_court_his f_world_court_power f_world_court_spite f_world_court_hour f_pad_signs f_pad_count u43_0 u43_1 u43_2 u43_3 u43_4 u43_5 u43_6 u43_7 u43_8 u43_9 u43_10 u43_11) (fun _ => rfl) (fun r105 u105 H locs hw hP hD hS => ?_)
            try dsimp only at hw
            exact z_iret hx hb hr hlocks (u43_0, u43_1, u43_2, u43_3, u43_4, u43_5, u43_6, u43_7, u43_8, u43_9, u43_10, u43_11) hw hP hS dX8_behind_108
          have hw := hw.1 c77
          refine lv_aload_n hx hb dX8_behind_80 rfl (lv_at hl 0 rfl) ?_
          refine va_get (D := D) (ci := 8) (v := .ref h_hearing) (C := RX8) (T := TX8) (N := 6) hx hb hz hX_X8 hown hK.1 hP 0 rfl rfl 3 (by decide) (hz _ z1_186) (fun _ h9 => h9) rfl dX8_behind_81 ?_
          refine va_getN (D := D) (ci := 3) (v := .ref h_hearing_court) (C := RX3) (T := TX3) (N := 5) hx hb hz hX_X3 hown hK.1 hP 7 rfl rfl 0 (by decide) (va_Nw.use rfl (hK.2.1 _ (List.mem_of_getElem? (i := 12) rfl))) (fun _ h9 => h9) rfl dX8_behind_84 ?_
          refine lv_iload_n hx hb dX8_behind_87 rfl (lv_at hl 1 rfl) ?_
          refine z_ri (z_runV (As := [.int p1]) (rest := []) hF (c_X1_creamOf l D cI cC cZ h_hearing_court h_hearing_court_creams (.ref h_hearing_court_places) (.int u43_2) (.int u43_3) (.int u43_4) (.int u43_5) (.int u43_6) (.int u43_7) u43_1 p1 _ _ hw) (cwV 1 hz (z_gV z2_162 z2_99 z2_100 z1_3 z2_101) rfl rfl rfl hd_X1_creamOf ⟨Nat.le_of_ble_eq_true rfl, Nat.le_of_ble_eq_true rfl⟩) hK hP hD [8, 10] rfl rfl 8 1 rfl rfl rfl rfl hl.1 rfl (Nat.le_of_ble_eq_true rfl) dX8_behind_88 ⟨Nat.zero_le _, Nat.zero_le _⟩) hP hD hS hA [8, 10] rfl (fun _ => rfl) (fun _ => cw_X8_behind cI cC h h_world h_world_court h_world_court_places h_world_court_creams h_pad h_pad_signs h_hearing h_hearing_court h_hearing_court_places h_hearing_court_creams g_images g_bowls g_guesses g_world_town g_world_sights f_world_court_places f_world_court_creams f_world_court_present f_world_court_lying f_world_court_his f_world_court_power f_world_court_spite f_world_court_hour f_pad_signs f_pad_count u43_0 u43_1 u43_2 u43_3 u43_4 u43_5 u43_6 u43_7 u43_8 u43_9 u43_10 u43_11) (fun _ => rfl) (fun r88 u88 H locs hw hP hD hS => ?_)
          try dsimp only at hw
          refine lv_goto (tgt := 108) hx hb dX8_behind_91 (by decide) ?_
          exact z_iret hx hb hr hlocks (u43_0, u43_1, u43_2, u43_3, u43_4, u43_5, u43_6, u43_7, u43_8, u43_9, u43_10, u43_11) hw hP hS dX8_behind_108
        have hw := hw.1 c70
        refine lv_bipush (v := (-6 : Int32)) hx hb dX8_behind_73 (by decide) ?_
        exact z_iret hx hb hr hlocks (u43_0, u43_1, u43_2, u43_3, u43_4, u43_5, u43_6, u43_7, u43_8, u43_9, u43_10, u43_11) hw hP hS dX8_behind_75
      have hw := hw.2 c53
      refine lv_bipush (v := (-5 : Int32)) hx hb dX8_behind_56 (by decide) ?_
      exact z_iret hx hb hr hlocks (u43_0, u43_1, u43_2, u43_3, u43_4, u43_5, u43_6, u43_7, u43_8, u43_9, u43_10, u43_11) hw hP hS dX8_behind_58
    have hw := hw.1 c22
    refine lv_bipush (v := (-2 : Int32)) hx hb dX8_behind_25 (by decide) ?_
    exact z_iret hx hb hr hlocks (f_hearing_court_places, f_hearing_court_creams, f_hearing_court_present, f_hearing_court_lying, f_hearing_court_his, f_hearing_court_power, f_hearing_court_spite, f_hearing_court_hour, f_hearing_acts, f_hearing_reason, f_hearing_firstOffAct, f_hearing_firstOffWitness) hw hP hS dX8_behind_27
  have hw := hw.1 c11
  refine lv_iconst (v := (-1 : Int32)) hx hb dX8_behind_14 (by decide) ?_
  exact z_iret hx hb hr hlocks (f_hearing_court_places, f_hearing_court_creams, f_hearing_court_present, f_hearing_court_lying, f_hearing_court_his, f_hearing_court_power, f_hearing_court_spite, f_hearing_court_hour, f_hearing_acts, f_hearing_reason, f_hearing_firstOffAct, f_hearing_firstOffWitness) hw hP hS dX8_behind_15
abbrev cw_X1_liars (h : Nat) (g_places g_creams g_his g_power g_spite g_hour : Value) (f_present : Int32) (f_lying : Int32) : va_W := [(h, .inr (1, [g_places, g_creams, .int f_present, .int f_lying, g_his, g_power, g_spite, g_hour]))]
abbrev q_X1_liars (D : va_G) (h : Nat) (g_places g_creams g_his g_power g_spite g_hour : Value) (post : Int32 → Prop) (f_present : Int32) (f_lying : Int32) (A : Nat → Prop) : Array Value → State → Outcome → State → Prop := va_Qi (S := Unit) (fun r _ => post r ) (fun _ t => va_P D vwCl (cw_X1_liars h g_places g_creams g_his g_power g_spite g_hour f_present f_lying) t.heap) A
abbrev v_X1_liars : List Cond := .code yX1_liars cX1_liars 1 (some .int) :: zB
theorem hd_X1_liars : yX1_liars.cls = RX1 ∧ yX1_liars.cls ≠ "java/lang/invoke/MethodHandle" ∧ yX1_liars.cls ≠ "java/lang/invoke/VarHandle" ∧ (parseMethodDescriptor yX1_liars.desc).map (fun d => d.parameters.length) = some 0 := by decide +kernel
set_option maxHeartbeats 4000000 in
set_option maxRecDepth 100000 in
theorem c_X1_liars (l : Launch) (D : va_G) (cI cC cZ : ClassId) (h : Nat) (g_places g_creams g_his g_power g_spite g_hour : Value) (f_present : Int32) (f_lying : Int32) (sz : Nat) (post : Int32 → Prop) (hw : w_X1_liars post f_present f_lying) : Met l yX1_liars v_X1_liars ({ frames := 0, cells := 0, slots := 0, locals := 0 } : Room) (va_Pc [.ref h] (zPre D (zT cI cC cZ) sz (cw_X1_liars h g_places g_creams g_his g_power g_spite g_hour f_present f_lying))) (q_X1_liars D h g_places g_creams g_his g_power g_spite g_hour post f_present f_lying (va_A (cw_X1_liars h g_places g_creams g_his g_power g_spite g_hour f_present f_lying) sz)) 0 0 (va_A (cw_X1_liars h g_places g_creams g_his g_power g_spite g_hour f_present f_lying) sz) := by
  refine Met.ofW (cc := cX1_liars) (maxL := 1) (ret := (some .int)) (by decide) rfl ?_
  intro p e s m args below meth c s₁ B hml hv
  obtain ⟨rfl, hsz, hP, hK, hD0⟩ := hv
  subst hsz
  have hx := B.exec
  have hb := B.bytes
  have hr := B.returns
  have hz : ∀ w ∈ zB, w.before _ s = true := fun w h => atoms_spec (ws := v_X1_liars) B.pre w (List.mem_cons_of_mem _ h)
  have hown : s.vm.findClass RX1 = some m.cls := findClass_of_methodNamed B.named
  have hlocks := B.notSynchronized
  have hF : CallFix p m c cX1_liars 1 s (([.ref h] : List Value).toArray) zB RX1 := ⟨hx, hb, hml, hown, hz⟩
  have hD := hD0.self (sz := s.heap.size)
  generalize hAe : va_A (cw_X1_liars h g_places g_creams g_his g_power g_spite g_hour f_present f_lying) s.heap.size = A at hD ⊢
  have hA : ∀ q : Nat, s.heap.size ≤ q → A q := fun q h => by rw [← hAe]; exact Or.inr h
  have hS : va_S A s.heap s.heap [] := va_S.rf
  have hP : va_P D vwCl (cw_X1_liars h g_places g_creams g_his g_power g_spite g_hour f_present f_lying) s.heap := hP
  have hl := lv_entry ([.ref h]) (n := 1) (Nat.le_of_ble_eq_true rfl)
  rw [lg_entry_eq]
  generalize (lg_sl ([.ref h]) ++ List.replicate (1 - (lg_sl ([.ref h])).length) Slot.unset).toArray = ls at hl ⊢
  have hl : lv_has ls 1 [(0, .ref h)] := hl
  unfold w_X1_liars at hw
  refine lv_aload_n hx hb dX1_liars_0 rfl (lv_at hl 0 rfl) ?_
  refine va_get (D := D) (ci := 1) (v := .int f_present) (C := RX1) (T := TX1) (N := 8) hx hb hz hX_X1 hown hK.1 hP 0 rfl rfl 2 (by decide) (hz _ z1_37) (fun _ h9 => h9) rfl dX1_liars_1 ?_
  refine lv_aload_n hx hb dX1_liars_4 rfl (lv_at hl 0 rfl) ?_
  refine va_get (D := D) (ci := 1) (v := .int f_lying) (C := RX1) (T := TX1) (N := 8) hx hb hz hX_X1 hown hK.1 hP 0 rfl rfl 3 (by decide) (hz _ z1_39) (fun _ h9 => h9) rfl dX1_liars_5 ?_
  refine lv_iand hx hb dX1_liars_8 ?_
  exact z_iret hx hb hr hlocks () hw hP hS dX1_liars_9
