abbrev cw_X8_isWitness : va_W := []
abbrev q_X8_isWitness (D : va_G) (post : Int32 → Prop) (A : Nat → Prop) : Array Value → State → Outcome → State → Prop := va_Qi (S := Unit) (fun r _ => narrow .boolean (.int r) = .int r ∧ post r ) (fun _ t => va_P D vwCl (cw_X8_isWitness) t.heap) A
abbrev v_X8_isWitness : List Cond := .code yX8_isWitness cX8_isWitness 1 (some .boolean) :: zB
theorem hd_X8_isWitness : yX8_isWitness.cls ≠ "java/lang/invoke/MethodHandle" ∧ yX8_isWitness.cls ≠ "java/lang/invoke/VarHandle" ∧ (parseMethodDescriptor yX8_isWitness.desc).map (fun d => d.parameters.length) = some 1 := by decide +kernel
set_option maxHeartbeats 4000000 in
set_option maxRecDepth 100000 in
theorem c_X8_isWitness (l : Launch) (D : va_G) (cI cC cZ : ClassId) (p0 : Int32) (sz : Nat) (post : Int32 → Prop) (hw : w_X8_isWitness post p0) : Met l yX8_isWitness v_X8_isWitness ({ frames := 0, cells := 0, slots := 0, locals := 0 } : Room) (va_Pc [.int p0] (zPre D (zT cI cC cZ) sz (cw_X8_isWitness))) (q_X8_isWitness D post (va_A (cw_X8_isWitness) sz)) 0 0 (va_A (cw_X8_isWitness) sz) := by
  refine Met.ofW (cc := cX8_isWitness) (maxL := 1) (ret := (some .boolean)) (by decide) rfl ?_
  intro p e s m args below meth c s₁ B hml hv
  obtain ⟨rfl, hsz, hP, hK, hD0⟩ := hv
  subst hsz
  have hx := B.exec
  have hb := B.bytes
  have hr := B.returns
  have hz : ∀ w ∈ zB, w.before _ s = true := fun w h => atoms_spec (ws := v_X8_isWitness) B.pre w (List.mem_cons_of_mem _ h)
  have hown : s.vm.findClass RX8 = some m.cls := findClass_of_methodNamed B.named
  have hlocks := B.notSynchronized
  have hF : CallFix p m c cX8_isWitness 1 s (([.int p0] : List Value).toArray) zB RX8 := ⟨hx, hb, hml, hown, hz⟩
  have hD := hD0.self (sz := s.heap.size)
  generalize hAe : va_A (cw_X8_isWitness) s.heap.size = A at hD ⊢
  have hA : ∀ q : Nat, s.heap.size ≤ q → A q := fun q h => by rw [← hAe]; exact Or.inr h
  have hS : va_S A s.heap s.heap [] := va_S.rf
  have hP : va_P D vwCl (cw_X8_isWitness) s.heap := hP
  have hl := lv_entry ([.int p0]) (n := 1) (Nat.le_of_ble_eq_true rfl)
  rw [lg_entry_eq]
  generalize (lg_sl ([.int p0]) ++ List.replicate (1 - (lg_sl ([.int p0])).length) Slot.unset).toArray = ls at hl ⊢
  have hl : lv_has ls 1 [(0, .int p0)] := hl
  have J14 : ∀ (H : Heap) (locs : List Loc) (ls : Array Slot) (hw : w_X8_isWitness_B14 post p0) (hP : va_P D vwCl (cw_X8_isWitness) H) (hD : va_D A (cw_X8_isWitness)) (hS : va_S A s.heap H locs) (hl : lv_has ls 1 []), W p l e (headSpec v_X8_isWitness ({ frames := 0, cells := 0, slots := 0, locals := 0 } : Room)).room s m (([.int p0] : List Value).toArray) below meth c H locs 0 0 (MQ below (q_X8_isWitness D post A) (([.int p0] : List Value).toArray) s 0 0 A) (F0 m 14 ls []) := by
    intro H locs ls hw hP hD hS hl
    unfold w_X8_isWitness_B14 at hw
    refine lv_iconst (v := (0 : Int32)) hx hb dX8_isWitness_14 (by decide) ?_
    exact z_zret hx hb hr hlocks rfl () hw hP hS dX8_isWitness_15
  unfold w_X8_isWitness at hw
  refine lv_iload_n hx hb dX8_isWitness_0 rfl (lv_at hl 0 rfl) ?_
  refine lv_if_lt (tgt := 14) hx hb dX8_isWitness_1 (by decide) (fun c1 => ?_) (fun c1 => ?_)
  · have hw := hw.1 c1
    exact J14 _ _ _ hw hP hD hS (lv_sub hl [] rfl)
  have hw := hw.2 c1
  refine lv_iload_n hx hb dX8_isWitness_4 rfl (lv_at hl 0 rfl) ?_
  refine lv_bipush (v := (8 : Int32)) hx hb dX8_isWitness_5 (by decide) ?_
  refine lv_icmp_ge (tgt := 14) hx hb dX8_isWitness_7 (by decide) (fun c7 => ?_) (fun c7 => ?_)
  · have hw := hw.1 c7
    exact J14 _ _ _ hw hP hD hS (lv_sub hl [] rfl)
  have hw := hw.2 c7
  refine lv_iconst (v := (1 : Int32)) hx hb dX8_isWitness_10 (by decide) ?_
  refine lv_goto (tgt := 15) hx hb dX8_isWitness_11 (by decide) ?_
  exact z_zret hx hb hr hlocks rfl () hw hP hS dX8_isWitness_15
abbrev cw_X8_isPlace : va_W := []
abbrev q_X8_isPlace (D : va_G) (post : Int32 → Prop) (A : Nat → Prop) : Array Value → State → Outcome → State → Prop := va_Qi (S := Unit) (fun r _ => narrow .boolean (.int r) = .int r ∧ post r ) (fun _ t => va_P D vwCl (cw_X8_isPlace) t.heap) A
abbrev v_X8_isPlace : List Cond := .code yX8_isPlace cX8_isPlace 1 (some .boolean) :: zB
theorem hd_X8_isPlace : yX8_isPlace.cls ≠ "java/lang/invoke/MethodHandle" ∧ yX8_isPlace.cls ≠ "java/lang/invoke/VarHandle" ∧ (parseMethodDescriptor yX8_isPlace.desc).map (fun d => d.parameters.length) = some 1 := by decide +kernel
set_option maxHeartbeats 4000000 in
set_option maxRecDepth 100000 in
theorem c_X8_isPlace (l : Launch) (D : va_G) (cI cC cZ : ClassId) (p0 : Int32) (sz : Nat) (post : Int32 → Prop) (hw : w_X8_isPlace post p0) : Met l yX8_isPlace v_X8_isPlace ({ frames := 0, cells := 0, slots := 0, locals := 0 } : Room) (va_Pc [.int p0] (zPre D (zT cI cC cZ) sz (cw_X8_isPlace))) (q_X8_isPlace D post (va_A (cw_X8_isPlace) sz)) 0 0 (va_A (cw_X8_isPlace) sz) := by
  refine Met.ofW (cc := cX8_isPlace) (maxL := 1) (ret := (some .boolean)) (by decide) rfl ?_
  intro p e s m args below meth c s₁ B hml hv
  obtain ⟨rfl, hsz, hP, hK, hD0⟩ := hv
  subst hsz
  have hx := B.exec
  have hb := B.bytes
  have hr := B.returns
  have hz : ∀ w ∈ zB, w.before _ s = true := fun w h => atoms_spec (ws := v_X8_isPlace) B.pre w (List.mem_cons_of_mem _ h)
  have hown : s.vm.findClass RX8 = some m.cls := findClass_of_methodNamed B.named
  have hlocks := B.notSynchronized
  have hF : CallFix p m c cX8_isPlace 1 s (([.int p0] : List Value).toArray) zB RX8 := ⟨hx, hb, hml, hown, hz⟩
  have hD := hD0.self (sz := s.heap.size)
  generalize hAe : va_A (cw_X8_isPlace) s.heap.size = A at hD ⊢
  have hA : ∀ q : Nat, s.heap.size ≤ q → A q := fun q h => by rw [← hAe]; exact Or.inr h
  have hS : va_S A s.heap s.heap [] := va_S.rf
  have hP : va_P D vwCl (cw_X8_isPlace) s.heap := hP
  have hl := lv_entry ([.int p0]) (n := 1) (Nat.le_of_ble_eq_true rfl)
  rw [lg_entry_eq]
  generalize (lg_sl ([.int p0]) ++ List.replicate (1 - (lg_sl ([.int p0])).length) Slot.unset).toArray = ls at hl ⊢
  have hl : lv_has ls 1 [(0, .int p0)] := hl
  have J14 : ∀ (H : Heap) (locs : List Loc) (ls : Array Slot) (hw : w_X8_isPlace_B14 post p0) (hP : va_P D vwCl (cw_X8_isPlace) H) (hD : va_D A (cw_X8_isPlace)) (hS : va_S A s.heap H locs) (hl : lv_has ls 1 []), W p l e (headSpec v_X8_isPlace ({ frames := 0, cells := 0, slots := 0, locals := 0 } : Room)).room s m (([.int p0] : List Value).toArray) below meth c H locs 0 0 (MQ below (q_X8_isPlace D post A) (([.int p0] : List Value).toArray) s 0 0 A) (F0 m 14 ls []) := by
    intro H locs ls hw hP hD hS hl
    unfold w_X8_isPlace_B14 at hw
    refine lv_iconst (v := (0 : Int32)) hx hb dX8_isPlace_14 (by decide) ?_
    exact z_zret hx hb hr hlocks rfl () hw hP hS dX8_isPlace_15
  unfold w_X8_isPlace at hw
  refine lv_iload_n hx hb dX8_isPlace_0 rfl (lv_at hl 0 rfl) ?_
  refine lv_if_lt (tgt := 14) hx hb dX8_isPlace_1 (by decide) (fun c1 => ?_) (fun c1 => ?_)
  · have hw := hw.1 c1
    exact J14 _ _ _ hw hP hD hS (lv_sub hl [] rfl)
  have hw := hw.2 c1
  refine lv_iload_n hx hb dX8_isPlace_4 rfl (lv_at hl 0 rfl) ?_
  refine lv_bipush (v := (16 : Int32)) hx hb dX8_isPlace_5 (by decide) ?_
  refine lv_icmp_ge (tgt := 14) hx hb dX8_isPlace_7 (by decide) (fun c7 => ?_) (fun c7 => ?_)
  · have hw := hw.1 c7
    exact J14 _ _ _ hw hP hD hS (lv_sub hl [] rfl)
  have hw := hw.2 c7
  refine lv_iconst (v := (1 : Int32)) hx hb dX8_isPlace_10 (by decide) ?_
  refine lv_goto (tgt := 15) hx hb dX8_isPlace_11 (by decide) ?_
  exact z_zret hx hb hr hlocks rfl () hw hP hS dX8_isPlace_15
abbrev cw_X8_within : va_W := []
abbrev q_X8_within (D : va_G) (post : Int32 → Prop) (A : Nat → Prop) : Array Value → State → Outcome → State → Prop := va_Qi (S := Unit) (fun r _ => narrow .boolean (.int r) = .int r ∧ post r ) (fun _ t => va_P D vwCl (cw_X8_within) t.heap) A
abbrev v_X8_within : List Cond := .code yX8_within cX8_within 3 (some .boolean) :: zB
theorem hd_X8_within : yX8_within.cls ≠ "java/lang/invoke/MethodHandle" ∧ yX8_within.cls ≠ "java/lang/invoke/VarHandle" ∧ (parseMethodDescriptor yX8_within.desc).map (fun d => d.parameters.length) = some 3 := by decide +kernel
set_option maxHeartbeats 4000000 in
set_option maxRecDepth 100000 in
theorem c_X8_within (l : Launch) (D : va_G) (cI cC cZ : ClassId) (p0 : Int32) (p1 : Int32) (p2 : Int32) (sz : Nat) (post : Int32 → Prop) (hw : w_X8_within post p0 p1 p2) : Met l yX8_within v_X8_within ({ frames := 0, cells := 0, slots := 0, locals := 0 } : Room) (va_Pc [.int p0, .int p1, .int p2] (zPre D (zT cI cC cZ) sz (cw_X8_within))) (q_X8_within D post (va_A (cw_X8_within) sz)) 0 0 (va_A (cw_X8_within) sz) := by
  refine Met.ofW (cc := cX8_within) (maxL := 3) (ret := (some .boolean)) (by decide) rfl ?_
  intro p e s m args below meth c s₁ B hml hv
  obtain ⟨rfl, hsz, hP, hK, hD0⟩ := hv
  subst hsz
  have hx := B.exec
  have hb := B.bytes
  have hr := B.returns
  have hz : ∀ w ∈ zB, w.before _ s = true := fun w h => atoms_spec (ws := v_X8_within) B.pre w (List.mem_cons_of_mem _ h)
  have hown : s.vm.findClass RX8 = some m.cls := findClass_of_methodNamed B.named
  have hlocks := B.notSynchronized
  have hF : CallFix p m c cX8_within 3 s (([.int p0, .int p1, .int p2] : List Value).toArray) zB RX8 := ⟨hx, hb, hml, hown, hz⟩
  have hD := hD0.self (sz := s.heap.size)
  generalize hAe : va_A (cw_X8_within) s.heap.size = A at hD ⊢
  have hA : ∀ q : Nat, s.heap.size ≤ q → A q := fun q h => by rw [← hAe]; exact Or.inr h
  have hS : va_S A s.heap s.heap [] := va_S.rf
  have hP : va_P D vwCl (cw_X8_within) s.heap := hP
  have hl := lv_entry ([.int p0, .int p1, .int p2]) (n := 3) (Nat.le_of_ble_eq_true rfl)
  rw [lg_entry_eq]
  generalize (lg_sl ([.int p0, .int p1, .int p2]) ++ List.replicate (3 - (lg_sl ([.int p0, .int p1, .int p2])).length) Slot.unset).toArray = ls at hl ⊢
  have hl : lv_has ls 3 [(0, .int p0), (1, .int p1), (2, .int p2)] := hl
  have J14 : ∀ (H : Heap) (locs : List Loc) (ls : Array Slot) (hw : w_X8_within_B14 post p0 p1 p2) (hP : va_P D vwCl (cw_X8_within) H) (hD : va_D A (cw_X8_within)) (hS : va_S A s.heap H locs) (hl : lv_has ls 3 []), W p l e (headSpec v_X8_within ({ frames := 0, cells := 0, slots := 0, locals := 0 } : Room)).room s m (([.int p0, .int p1, .int p2] : List Value).toArray) below meth c H locs 0 0 (MQ below (q_X8_within D post A) (([.int p0, .int p1, .int p2] : List Value).toArray) s 0 0 A) (F0 m 14 ls []) := by
    intro H locs ls hw hP hD hS hl
    unfold w_X8_within_B14 at hw
    refine lv_iconst (v := (0 : Int32)) hx hb dX8_within_14 (by decide) ?_
    exact z_zret hx hb hr hlocks rfl () hw hP hS dX8_within_15
  unfold w_X8_within at hw
  refine lv_iload_n hx hb dX8_within_0 rfl (lv_at hl 0 rfl) ?_
  refine lv_iload_n hx hb dX8_within_1 rfl (lv_at hl 1 rfl) ?_
  refine lv_icmp_lt (tgt := 14) hx hb dX8_within_2 (by decide) (fun c2 => ?_) (fun c2 => ?_)
  · have hw := hw.1 c2
    exact J14 _ _ _ hw hP hD hS (lv_sub hl [] rfl)
  have hw := hw.2 c2
  refine lv_iload_n hx hb dX8_within_5 rfl (lv_at hl 0 rfl) ?_
  refine lv_iload_n hx hb dX8_within_6 rfl (lv_at hl 2 rfl) ?_
  refine lv_icmp_gt (tgt := 14) hx hb dX8_within_7 (by decide) (fun c7 => ?_) (fun c7 => ?_)
  · have hw := hw.1 c7
    exact J14 _ _ _ hw hP hD hS (lv_sub hl [] rfl)
  have hw := hw.2 c7
  refine lv_iconst (v := (1 : Int32)) hx hb dX8_within_10 (by decide) ?_
  refine lv_goto (tgt := 15) hx hb dX8_within_11 (by decide) ?_
  exact z_zret hx hb hr hlocks rfl () hw hP hS dX8_within_15
abbrev cw_X1_seat (cI : ClassId) (h h_places h_creams : Nat) (g_his g_power g_spite g_hour : Value) (f_places : Nat → Int32) (f_creams : Nat → Int32) (f_present : Int32) (f_lying : Int32) : va_W := [(h, .inr (1, [.ref h_places, .ref h_creams, .int f_present, .int f_lying, g_his, g_power, g_spite, g_hour])), (h_places, .inl (cI, 8, .inl f_places)), (h_creams, .inl (cI, 8, .inl f_creams))]
abbrev q_X1_seat (D : va_G) (cI : ClassId) (h h_places h_creams : Nat) (g_his g_power g_spite g_hour : Value) (post : (Nat → Int32) → (Nat → Int32) → Int32 → Int32 → Prop) (A : Nat → Prop) : Array Value → State → Outcome → State → Prop := va_Qv (S := (Nat → Int32) × (Nat → Int32) × Int32 × Int32) (fun u => post u.1 u.2.1 u.2.2.1 u.2.2.2) (fun u t => va_P D vwCl (cw_X1_seat cI h h_places h_creams g_his g_power g_spite g_hour u.1 u.2.1 u.2.2.1 u.2.2.2) t.heap) A
abbrev v_X1_seat : List Cond := .code yX1_seat cX1_seat 6 none :: zB
theorem hd_X1_seat : yX1_seat.cls = RX1 ∧ yX1_seat.cls ≠ "java/lang/invoke/MethodHandle" ∧ yX1_seat.cls ≠ "java/lang/invoke/VarHandle" ∧ (parseMethodDescriptor yX1_seat.desc).map (fun d => d.parameters.length) = some 4 := by decide +kernel
set_option maxHeartbeats 4000000 in
set_option maxRecDepth 100000 in
theorem c_X1_seat (l : Launch) (D : va_G) (cI cC cZ : ClassId) (h h_places h_creams : Nat) (g_his g_power g_spite g_hour : Value) (f_places : Nat → Int32) (f_creams : Nat → Int32) (f_present : Int32) (f_lying : Int32) (p1 : Int32) (p2 : Int32) (p3 : Int32) (p4 : Int32) (sz : Nat) (post : (Nat → Int32) → (Nat → Int32) → Int32 → Int32 → Prop) (hw : w_X1_seat post f_places f_creams f_present f_lying p1 p2 p3 p4) : Met l yX1_seat v_X1_seat ({ frames := 1, cells := 0, slots := 0, locals := 20 } : Room) (va_Pc [.ref h, .int p1, .int p2, .int p3, .int p4] (zPre D (zT cI cC cZ) sz (cw_X1_seat cI h h_places h_creams g_his g_power g_spite g_hour f_places f_creams f_present f_lying))) (q_X1_seat D cI h h_places h_creams g_his g_power g_spite g_hour post (va_A (cw_X1_seat cI h h_places h_creams g_his g_power g_spite g_hour f_places f_creams f_present f_lying) sz)) 0 0 (va_A (cw_X1_seat cI h h_places h_creams g_his g_power g_spite g_hour f_places f_creams f_present f_lying) sz) := by
  refine Met.ofW (cc := cX1_seat) (maxL := 6) (ret := none) (by decide) rfl ?_
  intro p e s m args below meth c s₁ B hml hv
  obtain ⟨rfl, hsz, hP, hK, hD0⟩ := hv
  subst hsz
  have hx := B.exec
  have hb := B.bytes
  have hr := B.returns
  have hz : ∀ w ∈ zB, w.before _ s = true := fun w h => atoms_spec (ws := v_X1_seat) B.pre w (List.mem_cons_of_mem _ h)
  have hown : s.vm.findClass RX1 = some m.cls := findClass_of_methodNamed B.named
  have hlocks := B.notSynchronized
  have hF : CallFix p m c cX1_seat 6 s (([.ref h, .int p1, .int p2, .int p3, .int p4] : List Value).toArray) zB RX1 := ⟨hx, hb, hml, hown, hz⟩
  have hD := hD0.self (sz := s.heap.size)
  generalize hAe : va_A (cw_X1_seat cI h h_places h_creams g_his g_power g_spite g_hour f_places f_creams f_present f_lying) s.heap.size = A at hD ⊢
  have hA : ∀ q : Nat, s.heap.size ≤ q → A q := fun q h => by rw [← hAe]; exact Or.inr h
  have hS : va_S A s.heap s.heap [] := va_S.rf
  have hP : va_P D vwCl (cw_X1_seat cI h h_places h_creams g_his g_power g_spite g_hour f_places f_creams f_present f_lying) s.heap := hP
  have hl := lv_entry ([.ref h, .int p1, .int p2, .int p3, .int p4]) (n := 6) (Nat.le_of_ble_eq_true rfl)
  rw [lg_entry_eq]
  generalize (lg_sl ([.ref h, .int p1, .int p2, .int p3, .int p4]) ++ List.replicate (6 - (lg_sl ([.ref h, .int p1, .int p2, .int p3, .int p4])).length) Slot.unset).toArray = ls at hl ⊢
  have hl : lv_has ls 6 [(0, .ref h), (1, .int p1), (2, .int p2), (3, .int p3), (4, .int p4)] := hl
  unfold w_X1_seat at hw
  refine lv_iload_n hx hb dX1_seat_0 rfl (lv_at hl 1 rfl) ?_
  refine z_ri (z_runSN (As := [.int p1]) (rest := []) hF (c_X8_isWitness l D cI cC cZ p1 _ _ hw) ⟨va_cnB 1 hz (z_gN z1_208) rfl rfl rfl (hK.2.1 _ (List.mem_of_getElem? (i := 18) rfl)) (hz _ z1_1) hd_X8_isWitness ⟨Nat.le_of_ble_eq_true rfl, Nat.le_of_ble_eq_true rfl⟩, (hz _ z1_207), trivial⟩ hK hP hD [] rfl rfl rfl hl.1 rfl (Nat.le_of_ble_eq_true rfl) dX1_seat_1 ⟨Nat.zero_le _, Nat.zero_le _⟩) hP hD hS hA [] rfl (fun _ => rfl) (fun _ => cw_X1_seat cI h h_places h_creams g_his g_power g_spite g_hour f_places f_creams f_present f_lying) (fun _ => rfl) (fun r1 u1 H locs hw hP hD hS => ?_)
  obtain ⟨hn1, hw⟩ := hw
  try dsimp only at hw
  refine lv_if_ne (tgt := 8) hx hb dX1_seat_4 (by decide) (fun c4 => ?_) (fun c4 => ?_)
  · have hw := hw.2 c4
    refine lv_iconst (v := (1 : Int32)) hx hb dX1_seat_8 (by decide) ?_
    refine lv_iload_n hx hb dX1_seat_9 rfl (lv_at hl 1 rfl) ?_
    refine lv_ishl hx hb dX1_seat_10 ?_
    refine lv_topi (fun y11 ey11 => ?_)
    have hw := hw y11 ey11
    refine lv_istore (lv' := [(5, .int y11), (0, .ref h), (1, .int p1), (2, .int p2), (3, .int p3), (4, .int p4)]) hx hb dX1_seat_11 hl (by decide) rfl (fun ls hl => ?_)
    refine lv_aload_n hx hb dX1_seat_13 rfl (lv_at hl 1 rfl) ?_
    refine va_get (D := D) (ci := 1) (v := .ref h_places) (C := RX1) (T := TX1) (N := 8) hx hb hz hX_X1 hown hK.1 hP 0 rfl rfl 0 (by decide) (hz _ z1_35) (fun _ h9 => h9) rfl dX1_seat_14 ?_
    refine lv_iload_n hx hb dX1_seat_17 rfl (lv_at hl 2 rfl) ?_
    refine lv_iload_n hx hb dX1_seat_18 rfl (lv_at hl 3 rfl) ?_
    obtain ⟨hi19, hw⟩ := hw
    refine va_iast hx hb hK.1 hP hD hS 1 0 rfl rfl hi19 dX1_seat_19 (fun H locs hP hD hS => ?_)
    have hP : va_P D vwCl (cw_X1_seat cI h h_places h_creams g_his g_power g_spite g_hour (upd f_places p1.toNatClampNeg p2) f_creams f_present f_lying) H := hP
    have hD : va_D A (cw_X1_seat cI h h_places h_creams g_his g_power g_spite g_hour (upd f_places p1.toNatClampNeg p2) f_creams f_present f_lying) := hD
    refine lv_aload_n hx hb dX1_seat_20 rfl (lv_at hl 1 rfl) ?_
    refine va_get (D := D) (ci := 1) (v := .ref h_creams) (C := RX1) (T := TX1) (N := 8) hx hb hz hX_X1 hown hK.1 hP 0 rfl rfl 1 (by decide) (hz _ z1_36) (fun _ h9 => h9) rfl dX1_seat_21 ?_
    refine lv_iload_n hx hb dX1_seat_24 rfl (lv_at hl 2 rfl) ?_
    refine lv_iload hx hb dX1_seat_25 (lv_at hl 5 rfl) ?_
    obtain ⟨hi27, hw⟩ := hw
    refine va_iast hx hb hK.1 hP hD hS 2 0 rfl rfl hi27 dX1_seat_27 (fun H locs hP hD hS => ?_)
    have hP : va_P D vwCl (cw_X1_seat cI h h_places h_creams g_his g_power g_spite g_hour (upd f_places p1.toNatClampNeg p2) (upd f_creams p1.toNatClampNeg p4) f_present f_lying) H := hP
    have hD : va_D A (cw_X1_seat cI h h_places h_creams g_his g_power g_spite g_hour (upd f_places p1.toNatClampNeg p2) (upd f_creams p1.toNatClampNeg p4) f_present f_lying) := hD
    refine lv_aload_n hx hb dX1_seat_28 rfl (lv_at hl 1 rfl) ?_
    refine lv_dup hx hb dX1_seat_29 rfl ?_
    refine va_get (D := D) (ci := 1) (v := .int f_present) (C := RX1) (T := TX1) (N := 8) hx hb hz hX_X1 hown hK.1 hP 0 rfl rfl 2 (by decide) (hz _ z1_37) (fun _ h9 => h9) rfl dX1_seat_30 ?_
    refine lv_iload hx hb dX1_seat_33 (lv_at hl 0 rfl) ?_
    refine lv_ior hx hb dX1_seat_35 ?_
    refine va_put (D := D) (ci := 1) (v := .int (f_present ||| y11)) (ty := .int) (C := RX1) (T := TX1) (N := 8) hx hb hz hX_X1 tyX1 tyX1_ok nmX1 hown hK.1 hP hD hS 0 rfl rfl 2 (by decide) (hz _ z1_37) (fun _ h9 => h9) rfl (tyX1_ok 2 (by decide)) rfl rfl (Nat.le_of_ble_eq_true rfl) dX1_seat_36 (fun H locs hP hD hS => ?_)
    have hP : va_P D vwCl (cw_X1_seat cI h h_places h_creams g_his g_power g_spite g_hour (upd f_places p1.toNatClampNeg p2) (upd f_creams p1.toNatClampNeg p4) (f_present ||| y11) f_lying) H := hP
    have hD : va_D A (cw_X1_seat cI h h_places h_creams g_his g_power g_spite g_hour (upd f_places p1.toNatClampNeg p2) (upd f_creams p1.toNatClampNeg p4) (f_present ||| y11) f_lying) := hD
    refine lv_aload_n hx hb dX1_seat_39 rfl (lv_at hl 1 rfl) ?_
    refine lv_iload_n hx hb dX1_seat_40 rfl (lv_at hl 4 rfl) ?_
    refine lv_if_eq (tgt := 54) hx hb dX1_seat_41 (by decide) (fun c41 => ?_) (fun c41 => ?_)
    · have hw := hw.1 c41
      refine lv_aload_n hx hb dX1_seat_54 rfl (lv_at hl 1 rfl) ?_
      refine va_get (D := D) (ci := 1) (v := .int f_lying) (C := RX1) (T := TX1) (N := 8) hx hb hz hX_X1 hown hK.1 hP 0 rfl rfl 3 (by decide) (hz _ z1_39) (fun _ h9 => h9) rfl dX1_seat_55 ?_
      refine lv_iload hx hb dX1_seat_58 (lv_at hl 0 rfl) ?_
      refine lv_iconst (v := (-1 : Int32)) hx hb dX1_seat_60 (by decide) ?_
      refine lv_ixor hx hb dX1_seat_61 ?_
      refine lv_iand hx hb dX1_seat_62 ?_
      refine lv_topi (fun y63 ey63 => ?_)
      have hw := hw y63 ey63
      refine va_put (D := D) (ci := 1) (v := .int y63) (ty := .int) (C := RX1) (T := TX1) (N := 8) hx hb hz hX_X1 tyX1 tyX1_ok nmX1 hown hK.1 hP hD hS 0 rfl rfl 3 (by decide) (hz _ z1_39) (fun _ h9 => h9) rfl (tyX1_ok 3 (by decide)) rfl rfl (Nat.le_of_ble_eq_true rfl) dX1_seat_63 (fun H locs hP hD hS => ?_)
      have hP : va_P D vwCl (cw_X1_seat cI h h_places h_creams g_his g_power g_spite g_hour (upd f_places p1.toNatClampNeg p2) (upd f_creams p1.toNatClampNeg p4) (f_present ||| y11) y63) H := hP
      have hD : va_D A (cw_X1_seat cI h h_places h_creams g_his g_power g_spite g_hour (upd f_places p1.toNatClampNeg p2) (upd f_creams p1.toNatClampNeg p4) (f_present ||| y11) y63) := hD
      exact z_vret hx hb hr hlocks ((upd f_places p1.toNatClampNeg p2), (upd f_creams p1.toNatClampNeg p4), (f_present ||| y11), y63) hw hP hS dX1_seat_66
    have hw := hw.2 c41
    refine lv_aload_n hx hb dX1_seat_44 rfl (lv_at hl 1 rfl) ?_
    refine va_get (D := D) (ci := 1) (v := .int f_lying) (C := RX1) (T := TX1) (N := 8) hx hb hz hX_X1 hown hK.1 hP 0 rfl rfl 3 (by decide) (hz _ z1_39) (fun _ h9 => h9) rfl dX1_seat_45 ?_
    refine lv_iload hx hb dX1_seat_48 (lv_at hl 0 rfl) ?_
    refine lv_ior hx hb dX1_seat_50 ?_
    refine lv_goto (tgt := 63) hx hb dX1_seat_51 (by decide) ?_
    refine va_put (D := D) (ci := 1) (v := .int (f_lying ||| y11)) (ty := .int) (C := RX1) (T := TX1) (N := 8) hx hb hz hX_X1 tyX1 tyX1_ok nmX1 hown hK.1 hP hD hS 0 rfl rfl 3 (by decide) (hz _ z1_39) (fun _ h9 => h9) rfl (tyX1_ok 3 (by decide)) rfl rfl (Nat.le_of_ble_eq_true rfl) dX1_seat_63 (fun H locs hP hD hS => ?_)
    have hP : va_P D vwCl (cw_X1_seat cI h h_places h_creams g_his g_power g_spite g_hour (upd f_places p1.toNatClampNeg p2) (upd f_creams p1.toNatClampNeg p4) (f_present ||| y11) (f_lying ||| y11)) H := hP
    have hD : va_D A (cw_X1_seat cI h h_places h_creams g_his g_power g_spite g_hour (upd f_places p1.toNatClampNeg p2) (upd f_creams p1.toNatClampNeg p4) (f_present ||| y11) (f_lying ||| y11)) := hD
    exact z_vret hx hb hr hlocks ((upd f_places p1.toNatClampNeg p2), (upd f_creams p1.toNatClampNeg p4), (f_present ||| y11), (f_lying ||| y11)) hw hP hS dX1_seat_66
  have hw := hw.1 c4
  exact z_vret hx hb hr hlocks (f_places, f_creams, f_present, f_lying) hw hP hS dX1_seat_7
abbrev cw_J6_bitCount_0f7a4 : va_W := []
abbrev q_J6_bitCount_0f7a4 (D : va_G) (post : Int32 → Prop) (A : Nat → Prop) : Array Value → State → Outcome → State → Prop := va_Qi (S := Unit) (fun r _ => post r ) (fun _ t => va_P D vwCl (cw_J6_bitCount_0f7a4) t.heap) A
abbrev v_J6_bitCount_0f7a4 : List Cond := .code yJ6_bitCount_0f7a4 cJ6_bitCount_0f7a4 1 (some .int) :: zB
theorem hd_J6_bitCount_0f7a4 : yJ6_bitCount_0f7a4.cls ≠ "java/lang/invoke/MethodHandle" ∧ yJ6_bitCount_0f7a4.cls ≠ "java/lang/invoke/VarHandle" ∧ (parseMethodDescriptor yJ6_bitCount_0f7a4.desc).map (fun d => d.parameters.length) = some 1 := by decide +kernel
set_option maxHeartbeats 4000000 in
set_option maxRecDepth 100000 in
theorem c_J6_bitCount_0f7a4 (l : Launch) (D : va_G) (cI cC cZ : ClassId) (p0 : Int32) (sz : Nat) (post : Int32 → Prop) (hw : w_J6_bitCount_0f7a4 post p0) : Met l yJ6_bitCount_0f7a4 v_J6_bitCount_0f7a4 ({ frames := 0, cells := 0, slots := 0, locals := 0 } : Room) (va_Pc [.int p0] (zPre D (zT cI cC cZ) sz (cw_J6_bitCount_0f7a4))) (q_J6_bitCount_0f7a4 D post (va_A (cw_J6_bitCount_0f7a4) sz)) 0 0 (va_A (cw_J6_bitCount_0f7a4) sz) := by
  refine Met.ofW (cc := cJ6_bitCount_0f7a4) (maxL := 1) (ret := (some .int)) (by decide) rfl ?_
  intro p e s m args below meth c s₁ B hml hv
  obtain ⟨rfl, hsz, hP, hK, hD0⟩ := hv
  subst hsz
  have hx := B.exec
  have hb := B.bytes
  have hr := B.returns
  have hz : ∀ w ∈ zB, w.before _ s = true := fun w h => atoms_spec (ws := v_J6_bitCount_0f7a4) B.pre w (List.mem_cons_of_mem _ h)
  have hown : s.vm.findClass RJ6 = some m.cls := findClass_of_methodNamed B.named
  have hlocks := B.notSynchronized
  have hF : CallFix p m c cJ6_bitCount_0f7a4 1 s (([.int p0] : List Value).toArray) zB RJ6 := ⟨hx, hb, hml, hown, hz⟩
  have hD := hD0.self (sz := s.heap.size)
  generalize hAe : va_A (cw_J6_bitCount_0f7a4) s.heap.size = A at hD ⊢
  have hA : ∀ q : Nat, s.heap.size ≤ q → A q := fun q h => by rw [← hAe]; exact Or.inr h
  have hS : va_S A s.heap s.heap [] := va_S.rf
  have hP : va_P D vwCl (cw_J6_bitCount_0f7a4) s.heap := hP
  have hl := lv_entry ([.int p0]) (n := 1) (Nat.le_of_ble_eq_true rfl)
  rw [lg_entry_eq]
  generalize (lg_sl ([.int p0]) ++ List.replicate (1 - (lg_sl ([.int p0])).length) Slot.unset).toArray = ls at hl ⊢
  have hl : lv_has ls 1 [(0, .int p0)] := hl
  unfold w_J6_bitCount_0f7a4 at hw
  refine lv_iload_n hx hb dJ6_bitCount_0f7a4_0 rfl (lv_at hl 0 rfl) ?_
  refine lv_iload_n hx hb dJ6_bitCount_0f7a4_1 rfl (lv_at hl 0 rfl) ?_
  refine lv_iconst (v := (1 : Int32)) hx hb dJ6_bitCount_0f7a4_2 (by decide) ?_
  refine lv_iushr (v := (p0.toUInt32 >>> ((1 : Int32).toUInt32 &&& Int32.toUInt32 31)).toInt32) hx hb dJ6_bitCount_0f7a4_3 rfl ?_
  refine lv_ldcw (v := (1431655765 : Int32)) hx hb hown (hz _ z1_223) dJ6_bitCount_0f7a4_4 ?_
  refine lv_iand hx hb dJ6_bitCount_0f7a4_7 ?_
  refine lv_isub hx hb dJ6_bitCount_0f7a4_8 ?_
  refine lv_topi (fun y9 ey9 => ?_)
  have hw := hw y9 ey9
  refine lv_istore_n (lv' := [(0, .int y9)]) hx hb dJ6_bitCount_0f7a4_9 rfl hl (by decide) rfl (fun ls hl => ?_)
  refine lv_iload_n hx hb dJ6_bitCount_0f7a4_10 rfl (lv_at hl 0 rfl) ?_
  refine lv_ldcw (v := (858993459 : Int32)) hx hb hown (hz _ z1_224) dJ6_bitCount_0f7a4_11 ?_
  refine lv_iand hx hb dJ6_bitCount_0f7a4_14 ?_
  refine lv_iload_n hx hb dJ6_bitCount_0f7a4_15 rfl (lv_at hl 0 rfl) ?_
  refine lv_iconst (v := (2 : Int32)) hx hb dJ6_bitCount_0f7a4_16 (by decide) ?_
  refine lv_iushr (v := (y9.toUInt32 >>> ((2 : Int32).toUInt32 &&& Int32.toUInt32 31)).toInt32) hx hb dJ6_bitCount_0f7a4_17 rfl ?_
  refine lv_ldcw (v := (858993459 : Int32)) hx hb hown (hz _ z1_224) dJ6_bitCount_0f7a4_18 ?_
  refine lv_iand hx hb dJ6_bitCount_0f7a4_21 ?_
  refine lv_iadd hx hb dJ6_bitCount_0f7a4_22 ?_
  refine lv_topi (fun y23 ey23 => ?_)
  have hw := hw y23 ey23
  refine lv_istore_n (lv' := [(0, .int y23)]) hx hb dJ6_bitCount_0f7a4_23 rfl hl (by decide) rfl (fun ls hl => ?_)
  refine lv_iload_n hx hb dJ6_bitCount_0f7a4_24 rfl (lv_at hl 0 rfl) ?_
  refine lv_iload_n hx hb dJ6_bitCount_0f7a4_25 rfl (lv_at hl 0 rfl) ?_
  refine lv_iconst (v := (4 : Int32)) hx hb dJ6_bitCount_0f7a4_26 (by decide) ?_
  refine lv_iushr (v := (y23.toUInt32 >>> ((4 : Int32).toUInt32 &&& Int32.toUInt32 31)).toInt32) hx hb dJ6_bitCount_0f7a4_27 rfl ?_
  refine lv_iadd hx hb dJ6_bitCount_0f7a4_28 ?_
  refine lv_ldcw (v := (252645135 : Int32)) hx hb hown (hz _ z1_225) dJ6_bitCount_0f7a4_29 ?_
  refine lv_iand hx hb dJ6_bitCount_0f7a4_32 ?_
  refine lv_topi (fun y33 ey33 => ?_)
  have hw := hw y33 ey33
  refine lv_istore_n (lv' := [(0, .int y33)]) hx hb dJ6_bitCount_0f7a4_33 rfl hl (by decide) rfl (fun ls hl => ?_)
  refine lv_iload_n hx hb dJ6_bitCount_0f7a4_34 rfl (lv_at hl 0 rfl) ?_
  refine lv_iload_n hx hb dJ6_bitCount_0f7a4_35 rfl (lv_at hl 0 rfl) ?_
  refine lv_bipush (v := (8 : Int32)) hx hb dJ6_bitCount_0f7a4_36 (by decide) ?_
  refine lv_iushr (v := (y33.toUInt32 >>> ((8 : Int32).toUInt32 &&& Int32.toUInt32 31)).toInt32) hx hb dJ6_bitCount_0f7a4_38 rfl ?_
  refine lv_iadd hx hb dJ6_bitCount_0f7a4_39 ?_
  refine lv_topi (fun y40 ey40 => ?_)
  have hw := hw y40 ey40
  refine lv_istore_n (lv' := [(0, .int y40)]) hx hb dJ6_bitCount_0f7a4_40 rfl hl (by decide) rfl (fun ls hl => ?_)
  refine lv_iload_n hx hb dJ6_bitCount_0f7a4_41 rfl (lv_at hl 0 rfl) ?_
  refine lv_iload_n hx hb dJ6_bitCount_0f7a4_42 rfl (lv_at hl 0 rfl) ?_
  refine lv_bipush (v := (16 : Int32)) hx hb dJ6_bitCount_0f7a4_43 (by decide) ?_
  refine lv_iushr (v := (y40.toUInt32 >>> ((16 : Int32).toUInt32 &&& Int32.toUInt32 31)).toInt32) hx hb dJ6_bitCount_0f7a4_45 rfl ?_
  refine lv_iadd hx hb dJ6_bitCount_0f7a4_46 ?_
  refine lv_topi (fun y47 ey47 => ?_)
  have hw := hw y47 ey47
  refine lv_istore_n (lv' := [(0, .int y47)]) hx hb dJ6_bitCount_0f7a4_47 rfl hl (by decide) rfl (fun ls hl => ?_)
  refine lv_iload_n hx hb dJ6_bitCount_0f7a4_48 rfl (lv_at hl 0 rfl) ?_
  refine lv_bipush (v := (63 : Int32)) hx hb dJ6_bitCount_0f7a4_49 (by decide) ?_
  refine lv_iand hx hb dJ6_bitCount_0f7a4_51 ?_
  exact z_iret hx hb hr hlocks () hw hP hS dJ6_bitCount_0f7a4_52
abbrev cw_X8_witness (cI : ClassId) (h h_world h_world_court h_world_court_places h_world_court_creams : Nat) (g_images g_pad g_hearing g_bowls g_guesses g_world_town g_world_sights g_world_court_his g_world_court_power g_world_court_spite g_world_court_hour : Value) (f_world_court_places : Nat → Int32) (f_world_court_creams : Nat → Int32) (f_world_court_present : Int32) (f_world_court_lying : Int32) : va_W := [(h, .inr (8, [.ref h_world, g_images, g_pad, g_hearing, g_bowls, g_guesses])), (h_world, .inr (7, [.ref h_world_court, g_world_town, g_world_sights])), (h_world_court, .inr (1, [.ref h_world_court_places, .ref h_world_court_creams, .int f_world_court_present, .int f_world_court_lying, g_world_court_his, g_world_court_power, g_world_court_spite, g_world_court_hour])), (h_world_court_places, .inl (cI, 8, .inl f_world_court_places)), (h_world_court_creams, .inl (cI, 8, .inl f_world_court_creams))]
abbrev q_X8_witness (D : va_G) (cI : ClassId) (h h_world h_world_court h_world_court_places h_world_court_creams : Nat) (g_images g_pad g_hearing g_bowls g_guesses g_world_town g_world_sights g_world_court_his g_world_court_power g_world_court_spite g_world_court_hour : Value) (post : Int32 → (Nat → Int32) → (Nat → Int32) → Int32 → Int32 → Prop) (A : Nat → Prop) : Array Value → State → Outcome → State → Prop := va_Qi (S := (Nat → Int32) × (Nat → Int32) × Int32 × Int32) (fun r u => post r u.1 u.2.1 u.2.2.1 u.2.2.2) (fun u t => va_P D vwCl (cw_X8_witness cI h h_world h_world_court h_world_court_places h_world_court_creams g_images g_pad g_hearing g_bowls g_guesses g_world_town g_world_sights g_world_court_his g_world_court_power g_world_court_spite g_world_court_hour u.1 u.2.1 u.2.2.1 u.2.2.2) t.heap) A
abbrev v_X8_witness : List Cond := .code yX8_witness cX8_witness 5 (some .int) :: zB
theorem hd_X8_witness : yX8_witness.cls = RX8 ∧ yX8_witness.cls ≠ "java/lang/invoke/MethodHandle" ∧ yX8_witness.cls ≠ "java/lang/invoke/VarHandle" ∧ (parseMethodDescriptor yX8_witness.desc).map (fun d => d.parameters.length) = some 4 := by decide +kernel
set_option maxHeartbeats 4000000 in
set_option maxRecDepth 100000 in
theorem c_X8_witness (l : Launch) (D : va_G) (cI cC cZ : ClassId) (h h_world h_world_court h_world_court_places h_world_court_creams : Nat) (g_images g_pad g_hearing g_bowls g_guesses g_world_town g_world_sights g_world_court_his g_world_court_power g_world_court_spite g_world_court_hour : Value) (f_world_court_places : Nat → Int32) (f_world_court_creams : Nat → Int32) (f_world_court_present : Int32) (f_world_court_lying : Int32) (p1 : Int32) (p2 : Int32) (p3 : Int32) (p4 : Int32) (sz : Nat) (post : Int32 → (Nat → Int32) → (Nat → Int32) → Int32 → Int32 → Prop) (hw : w_X8_witness post f_world_court_places f_world_court_creams f_world_court_present f_world_court_lying p1 p2 p3 p4) : Met l yX8_witness v_X8_witness ({ frames := 2, cells := 0, slots := 0, locals := 45 } : Room) (va_Pc [.ref h, .int p1, .int p2, .int p3, .int p4] (zPre D (zT cI cC cZ) sz (cw_X8_witness cI h h_world h_world_court h_world_court_places h_world_court_creams g_images g_pad g_hearing g_bowls g_guesses g_world_town g_world_sights g_world_court_his g_world_court_power g_world_court_spite g_world_court_hour f_world_court_places f_world_court_creams f_world_court_present f_world_court_lying))) (q_X8_witness D cI h h_world h_world_court h_world_court_places h_world_court_creams g_images g_pad g_hearing g_bowls g_guesses g_world_town g_world_sights g_world_court_his g_world_court_power g_world_court_spite g_world_court_hour post (va_A (cw_X8_witness cI h h_world h_world_court h_world_court_places h_world_court_creams g_images g_pad g_hearing g_bowls g_guesses g_world_town g_world_sights g_world_court_his g_world_court_power g_world_court_spite g_world_court_hour f_world_court_places f_world_court_creams f_world_court_present f_world_court_lying) sz)) 0 0 (va_A (cw_X8_witness cI h h_world h_world_court h_world_court_places h_world_court_creams g_images g_pad g_hearing g_bowls g_guesses g_world_town g_world_sights g_world_court_his g_world_court_power g_world_court_spite g_world_court_hour f_world_court_places f_world_court_creams f_world_court_present f_world_court_lying) sz) := by
  refine Met.ofW (cc := cX8_witness) (maxL := 5) (ret := (some .int)) (by decide) rfl ?_
  intro p e s m args below meth c s₁ B hml hv
  obtain ⟨rfl, hsz, hP, hK, hD0⟩ := hv
  subst hsz
  have hx := B.exec
  have hb := B.bytes
  have hr := B.returns
  have hz : ∀ w ∈ zB, w.before _ s = true := fun w h => atoms_spec (ws := v_X8_witness) B.pre w (List.mem_cons_of_mem _ h)
  have hown : s.vm.findClass RX8 = some m.cls := findClass_of_methodNamed B.named
  have hlocks := B.notSynchronized
  have hF : CallFix p m c cX8_witness 5 s (([.ref h, .int p1, .int p2, .int p3, .int p4] : List Value).toArray) zB RX8 := ⟨hx, hb, hml, hown, hz⟩
  have hD := hD0.self (sz := s.heap.size)
  generalize hAe : va_A (cw_X8_witness cI h h_world h_world_court h_world_court_places h_world_court_creams g_images g_pad g_hearing g_bowls g_guesses g_world_town g_world_sights g_world_court_his g_world_court_power g_world_court_spite g_world_court_hour f_world_court_places f_world_court_creams f_world_court_present f_world_court_lying) s.heap.size = A at hD ⊢
  have hA : ∀ q : Nat, s.heap.size ≤ q → A q := fun q h => by rw [← hAe]; exact Or.inr h
  have hS : va_S A s.heap s.heap [] := va_S.rf
  have hP : va_P D vwCl (cw_X8_witness cI h h_world h_world_court h_world_court_places h_world_court_creams g_images g_pad g_hearing g_bowls g_guesses g_world_town g_world_sights g_world_court_his g_world_court_power g_world_court_spite g_world_court_hour f_world_court_places f_world_court_creams f_world_court_present f_world_court_lying) s.heap := hP
  have hl := lv_entry ([.ref h, .int p1, .int p2, .int p3, .int p4]) (n := 5) (Nat.le_of_ble_eq_true rfl)
  rw [lg_entry_eq]
  generalize (lg_sl ([.ref h, .int p1, .int p2, .int p3, .int p4]) ++ List.replicate (5 - (lg_sl ([.ref h, .int p1, .int p2, .int p3, .int p4])).length) Slot.unset).toArray = ls at hl ⊢
  have hl : lv_has ls 5 [(0, .ref h), (1, .int p1), (2, .int p2), (3, .int p3), (4, .int p4)] := hl
  unfold w_X8_witness at hw
  refine lv_iload_n hx hb dX8_witness_0 rfl (lv_at hl 1 rfl) ?_
  refine z_ri (z_runS (As := [.int p1]) (rest := []) hF (c_X8_isWitness l D cI cC cZ p1 _ _ hw) (va_cwS 1 hz (z_gS z1_206 z1_207 z1_1 z1_208) rfl rfl rfl hd_X8_isWitness ⟨Nat.le_of_ble_eq_true rfl, Nat.le_of_ble_eq_true rfl⟩) hK hP hD [] rfl rfl rfl hl.1 rfl (Nat.le_of_ble_eq_true rfl) dX8_witness_1 ⟨Nat.zero_le _, Nat.zero_le _⟩) hP hD hS hA [] rfl (fun _ => rfl) (fun _ => cw_X8_witness cI h h_world h_world_court h_world_court_places h_world_court_creams g_images g_pad g_hearing g_bowls g_guesses g_world_town g_world_sights g_world_court_his g_world_court_power g_world_court_spite g_world_court_hour f_world_court_places f_world_court_creams f_world_court_present f_world_court_lying) (fun _ => rfl) (fun r1 u1 H locs hw hP hD hS => ?_)
  obtain ⟨hn1, hw⟩ := hw
  try dsimp only at hw
  refine lv_if_ne (tgt := 9) hx hb dX8_witness_4 (by decide) (fun c4 => ?_) (fun c4 => ?_)
  · have hw := hw.2 c4
    refine lv_iload_n hx hb dX8_witness_9 rfl (lv_at hl 2 rfl) ?_
    refine z_ri (z_runS (As := [.int p2]) (rest := []) hF (c_X8_isPlace l D cI cC cZ p2 _ _ hw) (va_cwS 1 hz (z_gS z1_209 z1_210 z1_1 z1_211) rfl rfl rfl hd_X8_isPlace ⟨Nat.le_of_ble_eq_true rfl, Nat.le_of_ble_eq_true rfl⟩) hK hP hD [] rfl rfl rfl hl.1 rfl (Nat.le_of_ble_eq_true rfl) dX8_witness_10 ⟨Nat.zero_le _, Nat.zero_le _⟩) hP hD hS hA [] rfl (fun _ => rfl) (fun _ => cw_X8_witness cI h h_world h_world_court h_world_court_places h_world_court_creams g_images g_pad g_hearing g_bowls g_guesses g_world_town g_world_sights g_world_court_his g_world_court_power g_world_court_spite g_world_court_hour f_world_court_places f_world_court_creams f_world_court_present f_world_court_lying) (fun _ => rfl) (fun r10 u10 H locs hw hP hD hS => ?_)
    obtain ⟨hn10, hw⟩ := hw
    try dsimp only at hw
    refine lv_if_eq (tgt := 27) hx hb dX8_witness_13 (by decide) (fun c13 => ?_) (fun c13 => ?_)
    · have hw := hw.1 c13
      refine lv_bipush (v := (-2 : Int32)) hx hb dX8_witness_27 (by decide) ?_
      exact z_iret hx hb hr hlocks (f_world_court_places, f_world_court_creams, f_world_court_present, f_world_court_lying) hw hP hS dX8_witness_29
    have hw := hw.2 c13
    refine lv_iload hx hb dX8_witness_16 (lv_at hl 4 rfl) ?_
    refine lv_iconst (v := (0 : Int32)) hx hb dX8_witness_18 (by decide) ?_
    refine lv_bipush (v := (99 : Int32)) hx hb dX8_witness_19 (by decide) ?_
    refine z_ri (z_runS (As := [.int p4, .int (0 : Int32), .int (99 : Int32)]) (rest := []) hF (c_X8_within l D cI cC cZ p4 (0 : Int32) (99 : Int32) _ _ hw) (va_cwS 3 hz (z_gS z1_212 z1_213 z1_1 z1_214) rfl rfl rfl hd_X8_within ⟨Nat.le_of_ble_eq_true rfl, Nat.le_of_ble_eq_true rfl⟩) hK hP hD [] rfl rfl rfl hl.1 rfl (Nat.le_of_ble_eq_true rfl) dX8_witness_21 ⟨Nat.zero_le _, Nat.zero_le _⟩) hP hD hS hA [] rfl (fun _ => rfl) (fun _ => cw_X8_witness cI h h_world h_world_court h_world_court_places h_world_court_creams g_images g_pad g_hearing g_bowls g_guesses g_world_town g_world_sights g_world_court_his g_world_court_power g_world_court_spite g_world_court_hour f_world_court_places f_world_court_creams f_world_court_present f_world_court_lying) (fun _ => rfl) (fun r21 u21 H locs hw hP hD hS => ?_)
    obtain ⟨hn21, hw⟩ := hw
    try dsimp only at hw
    refine lv_if_ne (tgt := 30) hx hb dX8_witness_24 (by decide) (fun c24 => ?_) (fun c24 => ?_)
    · have hw := hw.2 c24
      refine lv_aload_n hx hb dX8_witness_30 rfl (lv_at hl 0 rfl) ?_
      refine va_get (D := D) (ci := 8) (v := .ref h_world) (C := RX8) (T := TX8) (N := 6) hx hb hz hX_X8 hown hK.1 hP 0 rfl rfl 0 (by decide) (hz _ z1_183) (fun _ h9 => h9) rfl dX8_witness_31 ?_
      refine va_getN (D := D) (ci := 7) (v := .ref h_world_court) (C := RX7) (T := TX7) (N := 3) hx hb hz hX_X7 hown hK.1 hP 1 rfl rfl 0 (by decide) (va_Nw.use rfl (hK.2.1 _ (List.mem_of_getElem? (i := 7) rfl))) (fun _ h9 => h9) rfl dX8_witness_34 ?_
      refine lv_iload_n hx hb dX8_witness_37 rfl (lv_at hl 1 rfl) ?_
      refine lv_iload_n hx hb dX8_witness_38 rfl (lv_at hl 2 rfl) ?_
      refine lv_iload_n hx hb dX8_witness_39 rfl (lv_at hl 3 rfl) ?_
      refine lv_iload hx hb dX8_witness_40 (lv_at hl 4 rfl) ?_
      refine z_rv (z_runV (As := [.int p1, .int p2, .int p3, .int p4]) (rest := []) hF (c_X1_seat l D cI cC cZ h_world_court h_world_court_places h_world_court_creams g_world_court_his g_world_court_power g_world_court_spite g_world_court_hour f_world_court_places f_world_court_creams f_world_court_present f_world_court_lying p1 p2 p3 p4 _ _ hw) (cwV 4 hz (z_gV z1_215 z1_216 z1_217 z1_3 z1_218) rfl rfl rfl hd_X1_seat ⟨Nat.le_of_ble_eq_true rfl, Nat.le_of_ble_eq_true rfl⟩) hK hP hD [2, 3, 4] rfl rfl 2 1 rfl rfl rfl rfl hl.1 rfl (Nat.le_of_ble_eq_true rfl) dX8_witness_42 ⟨Nat.zero_le _, Nat.zero_le _⟩) hP hD hS hA [2, 3, 4] rfl (fun _ => rfl) (fun u => cw_X8_witness cI h h_world h_world_court h_world_court_places h_world_court_creams g_images g_pad g_hearing g_bowls g_guesses g_world_town g_world_sights g_world_court_his g_world_court_power g_world_court_spite g_world_court_hour u.1 u.2.1 u.2.2.1 u.2.2.2) (fun _ => rfl) (fun u42 H locs hw hP hD hS => ?_)
      obtain ⟨u42_0, u42_1, u42_2, u42_3⟩ := u42
      try dsimp only at hw
      have hP : va_P D vwCl (cw_X8_witness cI h h_world h_world_court h_world_court_places h_world_court_creams g_images g_pad g_hearing g_bowls g_guesses g_world_town g_world_sights g_world_court_his g_world_court_power g_world_court_spite g_world_court_hour u42_0 u42_1 u42_2 u42_3) H := hP
      have hD : va_D A (cw_X8_witness cI h h_world h_world_court h_world_court_places h_world_court_creams g_images g_pad g_hearing g_bowls g_guesses g_world_town g_world_sights g_world_court_his g_world_court_power g_world_court_spite g_world_court_hour u42_0 u42_1 u42_2 u42_3) := hD
      refine lv_aload_n hx hb dX8_witness_45 rfl (lv_at hl 0 rfl) ?_
      refine va_get (D := D) (ci := 8) (v := .ref h_world) (C := RX8) (T := TX8) (N := 6) hx hb hz hX_X8 hown hK.1 hP 0 rfl rfl 0 (by decide) (hz _ z1_183) (fun _ h9 => h9) rfl dX8_witness_46 ?_
      refine va_getN (D := D) (ci := 7) (v := .ref h_world_court) (C := RX7) (T := TX7) (N := 3) hx hb hz hX_X7 hown hK.1 hP 1 rfl rfl 0 (by decide) (va_Nw.use rfl (hK.2.1 _ (List.mem_of_getElem? (i := 7) rfl))) (fun _ h9 => h9) rfl dX8_witness_49 ?_
      refine va_getN (D := D) (ci := 1) (v := .int u42_2) (C := RX1) (T := TX1) (N := 8) hx hb hz hX_X1 hown hK.1 hP 2 rfl rfl 2 (by decide) (va_Nw.use rfl (hK.2.1 _ (List.mem_of_getElem? (i := 0) rfl))) (fun _ h9 => h9) rfl dX8_witness_52 ?_
      refine z_ri (z_runS (As := [.int u42_2]) (rest := []) hF (c_J6_bitCount_0f7a4 l D cI cC cZ u42_2 _ _ hw) (va_cwS 1 hz (z_gS z1_220 z1_221 z1_11 z1_222) rfl rfl rfl hd_J6_bitCount_0f7a4 ⟨Nat.le_of_ble_eq_true rfl, Nat.le_of_ble_eq_true rfl⟩) hK hP hD [] rfl rfl rfl hl.1 rfl (Nat.le_of_ble_eq_true rfl) dX8_witness_55 ⟨Nat.zero_le _, Nat.zero_le _⟩) hP hD hS hA [] rfl (fun _ => rfl) (fun _ => cw_X8_witness cI h h_world h_world_court h_world_court_places h_world_court_creams g_images g_pad g_hearing g_bowls g_guesses g_world_town g_world_sights g_world_court_his g_world_court_power g_world_court_spite g_world_court_hour u42_0 u42_1 u42_2 u42_3) (fun _ => rfl) (fun r55 u55 H locs hw hP hD hS => ?_)
      try dsimp only at hw
      exact z_iret hx hb hr hlocks (u42_0, u42_1, u42_2, u42_3) hw hP hS dX8_witness_58
    have hw := hw.1 c24
    refine lv_bipush (v := (-2 : Int32)) hx hb dX8_witness_27 (by decide) ?_
    exact z_iret hx hb hr hlocks (f_world_court_places, f_world_court_creams, f_world_court_present, f_world_court_lying) hw hP hS dX8_witness_29
  have hw := hw.1 c4
  refine lv_iconst (v := (-1 : Int32)) hx hb dX8_witness_7 (by decide) ?_
  exact z_iret hx hb hr hlocks (f_world_court_places, f_world_court_creams, f_world_court_present, f_world_court_lying) hw hP hS dX8_witness_8
abbrev cw_X8_he (h h_world h_world_court : Nat) (g_images g_pad g_hearing g_bowls g_guesses g_world_town g_world_sights g_world_court_places g_world_court_creams g_world_court_present g_world_court_lying g_world_court_hour : Value) (f_world_court_his : Int32) (f_world_court_power : Int32) (f_world_court_spite : Int32) : va_W := [(h, .inr (8, [.ref h_world, g_images, g_pad, g_hearing, g_bowls, g_guesses])), (h_world, .inr (7, [.ref h_world_court, g_world_town, g_world_sights])), (h_world_court, .inr (1, [g_world_court_places, g_world_court_creams, g_world_court_present, g_world_court_lying, .int f_world_court_his, .int f_world_court_power, .int f_world_court_spite, g_world_court_hour]))]
abbrev q_X8_he (D : va_G) (h h_world h_world_court : Nat) (g_images g_pad g_hearing g_bowls g_guesses g_world_town g_world_sights g_world_court_places g_world_court_creams g_world_court_present g_world_court_lying g_world_court_hour : Value) (post : Int32 → Int32 → Int32 → Int32 → Prop) (A : Nat → Prop) : Array Value → State → Outcome → State → Prop := va_Qi (S := Int32 × Int32 × Int32) (fun r u => post r u.1 u.2.1 u.2.2) (fun u t => va_P D vwCl (cw_X8_he h h_world h_world_court g_images g_pad g_hearing g_bowls g_guesses g_world_town g_world_sights g_world_court_places g_world_court_creams g_world_court_present g_world_court_lying g_world_court_hour u.1 u.2.1 u.2.2) t.heap) A
abbrev v_X8_he : List Cond := .code yX8_he cX8_he 6 (some .int) :: zB
theorem hd_X8_he : yX8_he.cls = RX8 ∧ yX8_he.cls ≠ "java/lang/invoke/MethodHandle" ∧ yX8_he.cls ≠ "java/lang/invoke/VarHandle" ∧ (parseMethodDescriptor yX8_he.desc).map (fun d => d.parameters.length) = some 3 := by decide +kernel
set_option maxHeartbeats 4000000 in
set_option maxRecDepth 100000 in
theorem c_X8_he (l : Launch) (D : va_G) (cI cC cZ : ClassId) (h h_world h_world_court : Nat) (g_images g_pad g_hearing g_bowls g_guesses g_world_town g_world_sights g_world_court_places g_world_court_creams g_world_court_present g_world_court_lying g_world_court_hour : Value) (f_world_court_his : Int32) (f_world_court_power : Int32) (f_world_court_spite : Int32) (p1 : Int32) (p2 : Int32) (p3 : Int32) (sz : Nat) (post : Int32 → Int32 → Int32 → Int32 → Prop) (hw : w_X8_he post f_world_court_his f_world_court_power f_world_court_spite p1 p2 p3) : Met l yX8_he v_X8_he ({ frames := 1, cells := 0, slots := 0, locals := 22 } : Room) (va_Pc [.ref h, .int p1, .int p2, .int p3] (zPre D (zT cI cC cZ) sz (cw_X8_he h h_world h_world_court g_images g_pad g_hearing g_bowls g_guesses g_world_town g_world_sights g_world_court_places g_world_court_creams g_world_court_present g_world_court_lying g_world_court_hour f_world_court_his f_world_court_power f_world_court_spite))) (q_X8_he D h h_world h_world_court g_images g_pad g_hearing g_bowls g_guesses g_world_town g_world_sights g_world_court_places g_world_court_creams g_world_court_present g_world_court_lying g_world_court_hour post (va_A (cw_X8_he h h_world h_world_court g_images g_pad g_hearing g_bowls g_guesses g_world_town g_world_sights g_world_court_places g_world_court_creams g_world_court_present g_world_court_lying g_world_court_hour f_world_court_his f_world_court_power f_world_court_spite) sz)) 0 0 (va_A (cw_X8_he h h_world h_world_court g_images g_pad g_hearing g_bowls g_guesses g_world_town g_world_sights g_world_court_places g_world_court_creams g_world_court_present g_world_court_lying g_world_court_hour f_world_court_his f_world_court_power f_world_court_spite) sz) := by
  refine Met.ofW (cc := cX8_he) (maxL := 6) (ret := (some .int)) (by decide) rfl ?_
  intro p e s m args below meth c s₁ B hml hv
  obtain ⟨rfl, hsz, hP, hK, hD0⟩ := hv
  subst hsz
  have hx := B.exec
  have hb := B.bytes
  have hr := B.returns
  have hz : ∀ w ∈ zB, w.before _ s = true := fun w h => atoms_spec (ws := v_X8_he) B.pre w (List.mem_cons_of_mem _ h)
  have hown : s.vm.findClass RX8 = some m.cls := findClass_of_methodNamed B.named
  have hlocks := B.notSynchronized
  have hF : CallFix p m c cX8_he 6 s (([.ref h, .int p1, .int p2, .int p3] : List Value).toArray) zB RX8 := ⟨hx, hb, hml, hown, hz⟩
  have hD := hD0.self (sz := s.heap.size)
  generalize hAe : va_A (cw_X8_he h h_world h_world_court g_images g_pad g_hearing g_bowls g_guesses g_world_town g_world_sights g_world_court_places g_world_court_creams g_world_court_present g_world_court_lying g_world_court_hour f_world_court_his f_world_court_power f_world_court_spite) s.heap.size = A at hD ⊢
  have hA : ∀ q : Nat, s.heap.size ≤ q → A q := fun q h => by rw [← hAe]; exact Or.inr h
  have hS : va_S A s.heap s.heap [] := va_S.rf
  have hP : va_P D vwCl (cw_X8_he h h_world h_world_court g_images g_pad g_hearing g_bowls g_guesses g_world_town g_world_sights g_world_court_places g_world_court_creams g_world_court_present g_world_court_lying g_world_court_hour f_world_court_his f_world_court_power f_world_court_spite) s.heap := hP
  have hl := lv_entry ([.ref h, .int p1, .int p2, .int p3]) (n := 6) (Nat.le_of_ble_eq_true rfl)
  rw [lg_entry_eq]
  generalize (lg_sl ([.ref h, .int p1, .int p2, .int p3]) ++ List.replicate (6 - (lg_sl ([.ref h, .int p1, .int p2, .int p3])).length) Slot.unset).toArray = ls at hl ⊢
  have hl : lv_has ls 6 [(0, .ref h), (1, .int p1), (2, .int p2), (3, .int p3)] := hl
  unfold w_X8_he at hw
  refine lv_iload_n hx hb dX8_he_0 rfl (lv_at hl 1 rfl) ?_
  refine z_ri (z_runS (As := [.int p1]) (rest := []) hF (c_X8_isPlace l D cI cC cZ p1 _ _ hw) (va_cwS 1 hz (z_gS z1_209 z1_210 z1_1 z1_211) rfl rfl rfl hd_X8_isPlace ⟨Nat.le_of_ble_eq_true rfl, Nat.le_of_ble_eq_true rfl⟩) hK hP hD [] rfl rfl rfl hl.1 rfl (Nat.le_of_ble_eq_true rfl) dX8_he_1 ⟨Nat.zero_le _, Nat.zero_le _⟩) hP hD hS hA [] rfl (fun _ => rfl) (fun _ => cw_X8_he h h_world h_world_court g_images g_pad g_hearing g_bowls g_guesses g_world_town g_world_sights g_world_court_places g_world_court_creams g_world_court_present g_world_court_lying g_world_court_hour f_world_court_his f_world_court_power f_world_court_spite) (fun _ => rfl) (fun r1 u1 H locs hw hP hD hS => ?_)
  obtain ⟨hn1, hw⟩ := hw
  try dsimp only at hw
  refine lv_if_eq (tgt := 27) hx hb dX8_he_4 (by decide) (fun c4 => ?_) (fun c4 => ?_)
  · have hw := hw.1 c4
    refine lv_bipush (v := (-2 : Int32)) hx hb dX8_he_27 (by decide) ?_
    exact z_iret hx hb hr hlocks (f_world_court_his, f_world_court_power, f_world_court_spite) hw hP hS dX8_he_29
  have hw := hw.2 c4
  refine lv_iload_n hx hb dX8_he_7 rfl (lv_at hl 2 rfl) ?_
  refine lv_iconst (v := (0 : Int32)) hx hb dX8_he_8 (by decide) ?_
  refine lv_bipush (v := (9 : Int32)) hx hb dX8_he_9 (by decide) ?_
  refine z_ri (z_runS (As := [.int p2, .int (0 : Int32), .int (9 : Int32)]) (rest := []) hF (c_X8_within l D cI cC cZ p2 (0 : Int32) (9 : Int32) _ _ hw) (va_cwS 3 hz (z_gS z1_212 z1_213 z1_1 z1_214) rfl rfl rfl hd_X8_within ⟨Nat.le_of_ble_eq_true rfl, Nat.le_of_ble_eq_true rfl⟩) hK hP hD [] rfl rfl rfl hl.1 rfl (Nat.le_of_ble_eq_true rfl) dX8_he_11 ⟨Nat.zero_le _, Nat.zero_le _⟩) hP hD hS hA [] rfl (fun _ => rfl) (fun _ => cw_X8_he h h_world h_world_court g_images g_pad g_hearing g_bowls g_guesses g_world_town g_world_sights g_world_court_places g_world_court_creams g_world_court_present g_world_court_lying g_world_court_hour f_world_court_his f_world_court_power f_world_court_spite) (fun _ => rfl) (fun r11 u11 H locs hw hP hD hS => ?_)
  obtain ⟨hn11, hw⟩ := hw
  try dsimp only at hw
  refine lv_if_eq (tgt := 27) hx hb dX8_he_14 (by decide) (fun c14 => ?_) (fun c14 => ?_)
  · have hw := hw.1 c14
    refine lv_bipush (v := (-2 : Int32)) hx hb dX8_he_27 (by decide) ?_
    exact z_iret hx hb hr hlocks (f_world_court_his, f_world_court_power, f_world_court_spite) hw hP hS dX8_he_29
  have hw := hw.2 c14
  refine lv_iload_n hx hb dX8_he_17 rfl (lv_at hl 3 rfl) ?_
  refine lv_iconst (v := (0 : Int32)) hx hb dX8_he_18 (by decide) ?_
  refine lv_bipush (v := (9 : Int32)) hx hb dX8_he_19 (by decide) ?_
  refine z_ri (z_runS (As := [.int p3, .int (0 : Int32), .int (9 : Int32)]) (rest := []) hF (c_X8_within l D cI cC cZ p3 (0 : Int32) (9 : Int32) _ _ hw) (va_cwS 3 hz (z_gS z1_212 z1_213 z1_1 z1_214) rfl rfl rfl hd_X8_within ⟨Nat.le_of_ble_eq_true rfl, Nat.le_of_ble_eq_true rfl⟩) hK hP hD [] rfl rfl rfl hl.1 rfl (Nat.le_of_ble_eq_true rfl) dX8_he_21 ⟨Nat.zero_le _, Nat.zero_le _⟩) hP hD hS hA [] rfl (fun _ => rfl) (fun _ => cw_X8_he h h_world h_world_court g_images g_pad g_hearing g_bowls g_guesses g_world_town g_world_sights g_world_court_places g_world_court_creams g_world_court_present g_world_court_lying g_world_court_hour f_world_court_his f_world_court_power f_world_court_spite) (fun _ => rfl) (fun r21 u21 H locs hw hP hD hS => ?_)
  obtain ⟨hn21, hw⟩ := hw
  try dsimp only at hw
  refine lv_if_ne (tgt := 30) hx hb dX8_he_24 (by decide) (fun c24 => ?_) (fun c24 => ?_)
  · have hw := hw.2 c24
    refine lv_aload_n hx hb dX8_he_30 rfl (lv_at hl 0 rfl) ?_
    refine va_get (D := D) (ci := 8) (v := .ref h_world) (C := RX8) (T := TX8) (N := 6) hx hb hz hX_X8 hown hK.1 hP 0 rfl rfl 0 (by decide) (hz _ z1_183) (fun _ h9 => h9) rfl dX8_he_31 ?_
    refine va_getN (D := D) (ci := 7) (v := .ref h_world_court) (C := RX7) (T := TX7) (N := 3) hx hb hz hX_X7 hown hK.1 hP 1 rfl rfl 0 (by decide) (va_Nw.use rfl (hK.2.1 _ (List.mem_of_getElem? (i := 7) rfl))) (fun _ h9 => h9) rfl dX8_he_34 ?_
    refine lv_astore (lv' := [(4, .ref h_world_court), (0, .ref h), (1, .int p1), (2, .int p2), (3, .int p3)]) hx hb dX8_he_37 hl (by decide) rfl (fun ls hl => ?_)
    refine lv_bipush (v := (100 : Int32)) hx hb dX8_he_39 (by decide) ?_
    refine lv_aload hx hb dX8_he_41 (lv_at hl 0 rfl) ?_
    refine va_getN (D := D) (ci := 1) (v := .int f_world_court_his) (C := RX1) (T := TX1) (N := 8) hx hb hz hX_X1 hown hK.1 hP 2 rfl rfl 4 (by decide) (va_Nw.use rfl (hK.2.1 _ (List.mem_of_getElem? (i := 1) rfl))) (fun _ h9 => h9) rfl dX8_he_43 ?_
    refine lv_imul hx hb dX8_he_46 ?_
    refine lv_bipush (v := (10 : Int32)) hx hb dX8_he_47 (by decide) ?_
    refine lv_aload hx hb dX8_he_49 (lv_at hl 0 rfl) ?_
    refine va_getN (D := D) (ci := 1) (v := .int f_world_court_power) (C := RX1) (T := TX1) (N := 8) hx hb hz hX_X1 hown hK.1 hP 2 rfl rfl 5 (by decide) (va_Nw.use rfl (hK.2.1 _ (List.mem_of_getElem? (i := 2) rfl))) (fun _ h9 => h9) rfl dX8_he_51 ?_
    refine lv_imul hx hb dX8_he_54 ?_
    refine lv_iadd hx hb dX8_he_55 ?_
    refine lv_aload hx hb dX8_he_56 (lv_at hl 0 rfl) ?_
    refine va_getN (D := D) (ci := 1) (v := .int f_world_court_spite) (C := RX1) (T := TX1) (N := 8) hx hb hz hX_X1 hown hK.1 hP 2 rfl rfl 6 (by decide) (va_Nw.use rfl (hK.2.1 _ (List.mem_of_getElem? (i := 3) rfl))) (fun _ h9 => h9) rfl dX8_he_58 ?_
    refine lv_iadd hx hb dX8_he_61 ?_
    refine lv_topi (fun y62 ey62 => ?_)
    have hw := hw y62 ey62
    refine lv_istore (lv' := [(5, .int y62), (4, .ref h_world_court), (0, .ref h), (1, .int p1), (2, .int p2), (3, .int p3)]) hx hb dX8_he_62 hl (by decide) rfl (fun ls hl => ?_)
    refine lv_aload hx hb dX8_he_64 (lv_at hl 1 rfl) ?_
    refine lv_iload_n hx hb dX8_he_66 rfl (lv_at hl 3 rfl) ?_
    refine va_putN (D := D) (ci := 1) (v := .int p1) (ty := .int) (C := RX1) (T := TX1) (N := 8) hx hb hz hX_X1 tyX1 tyX1_ok nmX1 hown hK.1 hP hD hS 2 rfl rfl 4 (by decide) (va_Nw.use rfl (hK.2.1 _ (List.mem_of_getElem? (i := 1) rfl))) (fun _ h9 => h9) rfl (tyX1_ok 4 (by decide)) rfl rfl (Nat.le_of_ble_eq_true rfl) dX8_he_67 (fun H locs hP hD hS => ?_)
    have hP : va_P D vwCl (cw_X8_he h h_world h_world_court g_images g_pad g_hearing g_bowls g_guesses g_world_town g_world_sights g_world_court_places g_world_court_creams g_world_court_present g_world_court_lying g_world_court_hour p1 f_world_court_power f_world_court_spite) H := hP
    have hD : va_D A (cw_X8_he h h_world h_world_court g_images g_pad g_hearing g_bowls g_guesses g_world_town g_world_sights g_world_court_places g_world_court_creams g_world_court_present g_world_court_lying g_world_court_hour p1 f_world_court_power f_world_court_spite) := hD
    refine lv_aload hx hb dX8_he_70 (lv_at hl 1 rfl) ?_
    refine lv_iload_n hx hb dX8_he_72 rfl (lv_at hl 4 rfl) ?_
    refine va_putN (D := D) (ci := 1) (v := .int p2) (ty := .int) (C := RX1) (T := TX1) (N := 8) hx hb hz hX_X1 tyX1 tyX1_ok nmX1 hown hK.1 hP hD hS 2 rfl rfl 5 (by decide) (va_Nw.use rfl (hK.2.1 _ (List.mem_of_getElem? (i := 2) rfl))) (fun _ h9 => h9) rfl (tyX1_ok 5 (by decide)) rfl rfl (Nat.le_of_ble_eq_true rfl) dX8_he_73 (fun H locs hP hD hS => ?_)
    have hP : va_P D vwCl (cw_X8_he h h_world h_world_court g_images g_pad g_hearing g_bowls g_guesses g_world_town g_world_sights g_world_court_places g_world_court_creams g_world_court_present g_world_court_lying g_world_court_hour p1 p2 f_world_court_spite) H := hP
    have hD : va_D A (cw_X8_he h h_world h_world_court g_images g_pad g_hearing g_bowls g_guesses g_world_town g_world_sights g_world_court_places g_world_court_creams g_world_court_present g_world_court_lying g_world_court_hour p1 p2 f_world_court_spite) := hD
    refine lv_aload hx hb dX8_he_76 (lv_at hl 1 rfl) ?_
    refine lv_iload_n hx hb dX8_he_78 rfl (lv_at hl 5 rfl) ?_
    refine va_putN (D := D) (ci := 1) (v := .int p3) (ty := .int) (C := RX1) (T := TX1) (N := 8) hx hb hz hX_X1 tyX1 tyX1_ok nmX1 hown hK.1 hP hD hS 2 rfl rfl 6 (by decide) (va_Nw.use rfl (hK.2.1 _ (List.mem_of_getElem? (i := 3) rfl))) (fun _ h9 => h9) rfl (tyX1_ok 6 (by decide)) rfl rfl (Nat.le_of_ble_eq_true rfl) dX8_he_79 (fun H locs hP hD hS => ?_)
    have hP : va_P D vwCl (cw_X8_he h h_world h_world_court g_images g_pad g_hearing g_bowls g_guesses g_world_town g_world_sights g_world_court_places g_world_court_creams g_world_court_present g_world_court_lying g_world_court_hour p1 p2 p3) H := hP
    have hD : va_D A (cw_X8_he h h_world h_world_court g_images g_pad g_hearing g_bowls g_guesses g_world_town g_world_sights g_world_court_places g_world_court_creams g_world_court_present g_world_court_lying g_world_court_hour p1 p2 p3) := hD
    refine lv_iload hx hb dX8_he_82 (lv_at hl 0 rfl) ?_
    exact z_iret hx hb hr hlocks (p1, p2, p3) hw hP hS dX8_he_84
  have hw := hw.1 c24
  refine lv_bipush (v := (-2 : Int32)) hx hb dX8_he_27 (by decide) ?_
  exact z_iret hx hb hr hlocks (f_world_court_his, f_world_court_power, f_world_court_spite) hw hP hS dX8_he_29
abbrev cw_X8_isCell : va_W := []
abbrev q_X8_isCell (D : va_G) (post : Int32 → Prop) (A : Nat → Prop) : Array Value → State → Outcome → State → Prop := va_Qi (S := Unit) (fun r _ => narrow .boolean (.int r) = .int r ∧ post r ) (fun _ t => va_P D vwCl (cw_X8_isCell) t.heap) A
abbrev v_X8_isCell : List Cond := .code yX8_isCell cX8_isCell 1 (some .boolean) :: zB
theorem hd_X8_isCell : yX8_isCell.cls ≠ "java/lang/invoke/MethodHandle" ∧ yX8_isCell.cls ≠ "java/lang/invoke/VarHandle" ∧ (parseMethodDescriptor yX8_isCell.desc).map (fun d => d.parameters.length) = some 1 := by decide +kernel
set_option maxHeartbeats 4000000 in
set_option maxRecDepth 100000 in
theorem c_X8_isCell (l : Launch) (D : va_G) (cI cC cZ : ClassId) (p0 : Int32) (sz : Nat) (post : Int32 → Prop) (hw : w_X8_isCell post p0) : Met l yX8_isCell v_X8_isCell ({ frames := 0, cells := 0, slots := 0, locals := 0 } : Room) (va_Pc [.int p0] (zPre D (zT cI cC cZ) sz (cw_X8_isCell))) (q_X8_isCell D post (va_A (cw_X8_isCell) sz)) 0 0 (va_A (cw_X8_isCell) sz) := by
  refine Met.ofW (cc := cX8_isCell) (maxL := 1) (ret := (some .boolean)) (by decide) rfl ?_
  intro p e s m args below meth c s₁ B hml hv
  obtain ⟨rfl, hsz, hP, hK, hD0⟩ := hv
  subst hsz
  have hx := B.exec
  have hb := B.bytes
  have hr := B.returns
  have hz : ∀ w ∈ zB, w.before _ s = true := fun w h => atoms_spec (ws := v_X8_isCell) B.pre w (List.mem_cons_of_mem _ h)
  have hown : s.vm.findClass RX8 = some m.cls := findClass_of_methodNamed B.named
  have hlocks := B.notSynchronized
  have hF : CallFix p m c cX8_isCell 1 s (([.int p0] : List Value).toArray) zB RX8 := ⟨hx, hb, hml, hown, hz⟩
  have hD := hD0.self (sz := s.heap.size)
  generalize hAe : va_A (cw_X8_isCell) s.heap.size = A at hD ⊢
  have hA : ∀ q : Nat, s.heap.size ≤ q → A q := fun q h => by rw [← hAe]; exact Or.inr h
  have hS : va_S A s.heap s.heap [] := va_S.rf
  have hP : va_P D vwCl (cw_X8_isCell) s.heap := hP
  have hl := lv_entry ([.int p0]) (n := 1) (Nat.le_of_ble_eq_true rfl)
  rw [lg_entry_eq]
  generalize (lg_sl ([.int p0]) ++ List.replicate (1 - (lg_sl ([.int p0])).length) Slot.unset).toArray = ls at hl ⊢
  have hl : lv_has ls 1 [(0, .int p0)] := hl
  have J14 : ∀ (H : Heap) (locs : List Loc) (ls : Array Slot) (hw : w_X8_isCell_B14 post p0) (hP : va_P D vwCl (cw_X8_isCell) H) (hD : va_D A (cw_X8_isCell)) (hS : va_S A s.heap H locs) (hl : lv_has ls 1 []), W p l e (headSpec v_X8_isCell ({ frames := 0, cells := 0, slots := 0, locals := 0 } : Room)).room s m (([.int p0] : List Value).toArray) below meth c H locs 0 0 (MQ below (q_X8_isCell D post A) (([.int p0] : List Value).toArray) s 0 0 A) (F0 m 14 ls []) := by
    intro H locs ls hw hP hD hS hl
    unfold w_X8_isCell_B14 at hw
    refine lv_iconst (v := (0 : Int32)) hx hb dX8_isCell_14 (by decide) ?_
    exact z_zret hx hb hr hlocks rfl () hw hP hS dX8_isCell_15
  unfold w_X8_isCell at hw
  refine lv_iload_n hx hb dX8_isCell_0 rfl (lv_at hl 0 rfl) ?_
  refine lv_if_lt (tgt := 14) hx hb dX8_isCell_1 (by decide) (fun c1 => ?_) (fun c1 => ?_)
  · have hw := hw.1 c1
    exact J14 _ _ _ hw hP hD hS (lv_sub hl [] rfl)
  have hw := hw.2 c1
  refine lv_iload_n hx hb dX8_isCell_4 rfl (lv_at hl 0 rfl) ?_
  refine lv_bipush (v := (12 : Int32)) hx hb dX8_isCell_5 (by decide) ?_
  refine lv_icmp_ge (tgt := 14) hx hb dX8_isCell_7 (by decide) (fun c7 => ?_) (fun c7 => ?_)
  · have hw := hw.1 c7
    exact J14 _ _ _ hw hP hD hS (lv_sub hl [] rfl)
  have hw := hw.2 c7
  refine lv_iconst (v := (1 : Int32)) hx hb dX8_isCell_10 (by decide) ?_
  refine lv_goto (tgt := 15) hx hb dX8_isCell_11 (by decide) ?_
  exact z_zret hx hb hr hlocks rfl () hw hP hS dX8_isCell_15
abbrev cw_X6_lead (cI : ClassId) (h h_ways : Nat) (g_milky : Value) (f_ways : Nat → Int32) : va_W := [(h, .inr (6, [.ref h_ways, g_milky])), (h_ways, .inl (cI, 12, .inl f_ways))]
abbrev q_X6_lead (D : va_G) (cI : ClassId) (h h_ways : Nat) (g_milky : Value) (post : (Nat → Int32) → Prop) (A : Nat → Prop) : Array Value → State → Outcome → State → Prop := va_Qv (S := (Nat → Int32)) (fun u => post u) (fun u t => va_P D vwCl (cw_X6_lead cI h h_ways g_milky u) t.heap) A
abbrev v_X6_lead : List Cond := .code yX6_lead cX6_lead 4 none :: zB
theorem hd_X6_lead : yX6_lead.cls = RX6 ∧ yX6_lead.cls ≠ "java/lang/invoke/MethodHandle" ∧ yX6_lead.cls ≠ "java/lang/invoke/VarHandle" ∧ (parseMethodDescriptor yX6_lead.desc).map (fun d => d.parameters.length) = some 3 := by decide +kernel
set_option maxHeartbeats 4000000 in
set_option maxRecDepth 100000 in
theorem c_X6_lead (l : Launch) (D : va_G) (cI cC cZ : ClassId) (h h_ways : Nat) (g_milky : Value) (f_ways : Nat → Int32) (p1 : Int32) (p2 : Int32) (p3 : Int32) (sz : Nat) (post : (Nat → Int32) → Prop) (hw : w_X6_lead post f_ways p1 p2 p3) : Met l yX6_lead v_X6_lead ({ frames := 1, cells := 0, slots := 0, locals := 20 } : Room) (va_Pc [.ref h, .int p1, .int p2, .int p3] (zPre D (zT cI cC cZ) sz (cw_X6_lead cI h h_ways g_milky f_ways))) (q_X6_lead D cI h h_ways g_milky post (va_A (cw_X6_lead cI h h_ways g_milky f_ways) sz)) 0 0 (va_A (cw_X6_lead cI h h_ways g_milky f_ways) sz) := by
  refine Met.ofW (cc := cX6_lead) (maxL := 4) (ret := none) (by decide) rfl ?_
  intro p e s m args below meth c s₁ B hml hv
  obtain ⟨rfl, hsz, hP, hK, hD0⟩ := hv
  subst hsz
  have hx := B.exec
  have hb := B.bytes
  have hr := B.returns
  have hz : ∀ w ∈ zB, w.before _ s = true := fun w h => atoms_spec (ws := v_X6_lead) B.pre w (List.mem_cons_of_mem _ h)
  have hown : s.vm.findClass RX6 = some m.cls := findClass_of_methodNamed B.named
  have hlocks := B.notSynchronized
  have hF : CallFix p m c cX6_lead 4 s (([.ref h, .int p1, .int p2, .int p3] : List Value).toArray) zB RX6 := ⟨hx, hb, hml, hown, hz⟩
  have hD := hD0.self (sz := s.heap.size)
  generalize hAe : va_A (cw_X6_lead cI h h_ways g_milky f_ways) s.heap.size = A at hD ⊢
  have hA : ∀ q : Nat, s.heap.size ≤ q → A q := fun q h => by rw [← hAe]; exact Or.inr h
  have hS : va_S A s.heap s.heap [] := va_S.rf
  have hP : va_P D vwCl (cw_X6_lead cI h h_ways g_milky f_ways) s.heap := hP
  have hl := lv_entry ([.ref h, .int p1, .int p2, .int p3]) (n := 4) (Nat.le_of_ble_eq_true rfl)
  rw [lg_entry_eq]
  generalize (lg_sl ([.ref h, .int p1, .int p2, .int p3]) ++ List.replicate (4 - (lg_sl ([.ref h, .int p1, .int p2, .int p3])).length) Slot.unset).toArray = ls at hl ⊢
  have hl : lv_has ls 4 [(0, .ref h), (1, .int p1), (2, .int p2), (3, .int p3)] := hl
  have J49 : ∀ (f_ways : Nat → Int32) (s1 : Int32) (s2 : Int32) (H : Heap) (locs : List Loc) (ls : Array Slot) (hw : w_X6_lead_B49 post p1 p2 p3 f_ways s1 s2) (hP : va_P D vwCl (cw_X6_lead cI h h_ways g_milky f_ways) H) (hD : va_D A (cw_X6_lead cI h h_ways g_milky f_ways)) (hS : va_S A s.heap H locs) (hl : lv_has ls 4 [(0, .ref h), (1, .int p1), (2, .int p2), (3, .int p3)]), W p l e (headSpec v_X6_lead ({ frames := 1, cells := 0, slots := 0, locals := 20 } : Room)).room s m (([.ref h, .int p1, .int p2, .int p3] : List Value).toArray) below meth c H locs 0 0 (MQ below (q_X6_lead D cI h h_ways g_milky post A) (([.ref h, .int p1, .int p2, .int p3] : List Value).toArray) s 0 0 A) (F0 m 49 ls [.int s2, .int s1, .ref h_ways]) := by
    intro f_ways s1 s2 H locs ls hw hP hD hS hl
    unfold w_X6_lead_B49 at hw
    obtain ⟨hi49, hw⟩ := hw
    refine va_iast hx hb hK.1 hP hD hS 1 0 rfl rfl hi49 dX6_lead_49 (fun H locs hP hD hS => ?_)
    have hP : va_P D vwCl (cw_X6_lead cI h h_ways g_milky (upd f_ways s1.toNatClampNeg s2)) H := hP
    have hD : va_D A (cw_X6_lead cI h h_ways g_milky (upd f_ways s1.toNatClampNeg s2)) := hD
    refine lv_aload_n hx hb dX6_lead_50 rfl (lv_at hl 0 rfl) ?_
    refine va_get (D := D) (ci := 6) (v := .ref h_ways) (C := RX6) (T := TX6) (N := 2) hx hb hz hX_X6 hown hK.1 hP 0 rfl rfl 0 (by decide) (hz _ z1_72) (fun _ h9 => h9) rfl dX6_lead_51 ?_
    refine lv_iload_n hx hb dX6_lead_54 rfl (lv_at hl 2 rfl) ?_
    refine lv_iload_n hx hb dX6_lead_55 rfl (lv_at hl 3 rfl) ?_
    refine lv_if_eq (tgt := 72) hx hb dX6_lead_56 (by decide) (fun c56 => ?_) (fun c56 => ?_)
    · have hw := hw.1 c56
      refine lv_aload_n hx hb dX6_lead_72 rfl (lv_at hl 0 rfl) ?_
      refine va_get (D := D) (ci := 6) (v := .ref h_ways) (C := RX6) (T := TX6) (N := 2) hx hb hz hX_X6 hown hK.1 hP 0 rfl rfl 0 (by decide) (hz _ z1_72) (fun _ h9 => h9) rfl dX6_lead_73 ?_
      refine lv_iload_n hx hb dX6_lead_76 rfl (lv_at hl 2 rfl) ?_
      obtain ⟨hi77, hw⟩ := hw
      refine va_iald hx hb hK.1 hP 1 0 rfl rfl hi77 dX6_lead_77 ?_
      refine lv_iconst (v := (1 : Int32)) hx hb dX6_lead_78 (by decide) ?_
      refine lv_iload_n hx hb dX6_lead_79 rfl (lv_at hl 1 rfl) ?_
      refine lv_ishl hx hb dX6_lead_80 ?_
      refine lv_iconst (v := (-1 : Int32)) hx hb dX6_lead_81 (by decide) ?_
      refine lv_ixor hx hb dX6_lead_82 ?_
      refine lv_iand hx hb dX6_lead_83 ?_
      obtain ⟨hi84, hw⟩ := hw
      refine va_iast hx hb hK.1 hP hD hS 1 0 rfl rfl hi84 dX6_lead_84 (fun H locs hP hD hS => ?_)
      have hP : va_P D vwCl (cw_X6_lead cI h h_ways g_milky (upd (upd f_ways s1.toNatClampNeg s2) p2.toNatClampNeg (((upd f_ways s1.toNatClampNeg s2) p2.toNatClampNeg) &&& (((1 : Int32) <<< (p1 &&& 31)) ^^^ (-1 : Int32))))) H := hP
      have hD : va_D A (cw_X6_lead cI h h_ways g_milky (upd (upd f_ways s1.toNatClampNeg s2) p2.toNatClampNeg (((upd f_ways s1.toNatClampNeg s2) p2.toNatClampNeg) &&& (((1 : Int32) <<< (p1 &&& 31)) ^^^ (-1 : Int32))))) := hD
      exact z_vret hx hb hr hlocks (upd (upd f_ways s1.toNatClampNeg s2) p2.toNatClampNeg (((upd f_ways s1.toNatClampNeg s2) p2.toNatClampNeg) &&& (((1 : Int32) <<< (p1 &&& 31)) ^^^ (-1 : Int32)))) hw hP hS dX6_lead_85
    have hw := hw.2 c56
    refine lv_aload_n hx hb dX6_lead_59 rfl (lv_at hl 0 rfl) ?_
    refine va_get (D := D) (ci := 6) (v := .ref h_ways) (C := RX6) (T := TX6) (N := 2) hx hb hz hX_X6 hown hK.1 hP 0 rfl rfl 0 (by decide) (hz _ z1_72) (fun _ h9 => h9) rfl dX6_lead_60 ?_
    refine lv_iload_n hx hb dX6_lead_63 rfl (lv_at hl 2 rfl) ?_
    obtain ⟨hi64, hw⟩ := hw
    refine va_iald hx hb hK.1 hP 1 0 rfl rfl hi64 dX6_lead_64 ?_
    refine lv_iconst (v := (1 : Int32)) hx hb dX6_lead_65 (by decide) ?_
    refine lv_iload_n hx hb dX6_lead_66 rfl (lv_at hl 1 rfl) ?_
    refine lv_ishl hx hb dX6_lead_67 ?_
    refine lv_ior hx hb dX6_lead_68 ?_
    refine lv_goto (tgt := 84) hx hb dX6_lead_69 (by decide) ?_
    obtain ⟨hi84, hw⟩ := hw
    refine va_iast hx hb hK.1 hP hD hS 1 0 rfl rfl hi84 dX6_lead_84 (fun H locs hP hD hS => ?_)
    have hP : va_P D vwCl (cw_X6_lead cI h h_ways g_milky (upd (upd f_ways s1.toNatClampNeg s2) p2.toNatClampNeg (((upd f_ways s1.toNatClampNeg s2) p2.toNatClampNeg) ||| ((1 : Int32) <<< (p1 &&& 31))))) H := hP
    have hD : va_D A (cw_X6_lead cI h h_ways g_milky (upd (upd f_ways s1.toNatClampNeg s2) p2.toNatClampNeg (((upd f_ways s1.toNatClampNeg s2) p2.toNatClampNeg) ||| ((1 : Int32) <<< (p1 &&& 31))))) := hD
    exact z_vret hx hb hr hlocks (upd (upd f_ways s1.toNatClampNeg s2) p2.toNatClampNeg (((upd f_ways s1.toNatClampNeg s2) p2.toNatClampNeg) ||| ((1 : Int32) <<< (p1 &&& 31)))) hw hP hS dX6_lead_85
  unfold w_X6_lead at hw
  refine lv_iload_n hx hb dX6_lead_0 rfl (lv_at hl 1 rfl) ?_
  refine z_ri (z_runSN (As := [.int p1]) (rest := []) hF (c_X8_isCell l D cI cC cZ p1 _ _ hw) ⟨va_cnB 1 hz (z_gN z1_236) rfl rfl rfl (hK.2.1 _ (List.mem_of_getElem? (i := 19) rfl)) (hz _ z1_1) hd_X8_isCell ⟨Nat.le_of_ble_eq_true rfl, Nat.le_of_ble_eq_true rfl⟩, (hz _ z1_235), trivial⟩ hK hP hD [] rfl rfl rfl hl.1 rfl (Nat.le_of_ble_eq_true rfl) dX6_lead_1 ⟨Nat.zero_le _, Nat.zero_le _⟩) hP hD hS hA [] rfl (fun _ => rfl) (fun _ => cw_X6_lead cI h h_ways g_milky f_ways) (fun _ => rfl) (fun r1 u1 H locs hw hP hD hS => ?_)
  obtain ⟨hn1, hw⟩ := hw
  try dsimp only at hw
  refine lv_if_eq (tgt := 14) hx hb dX6_lead_4 (by decide) (fun c4 => ?_) (fun c4 => ?_)
  · have hw := hw.1 c4
    exact z_vret hx hb hr hlocks f_ways hw hP hS dX6_lead_14
  have hw := hw.2 c4
  refine lv_iload_n hx hb dX6_lead_7 rfl (lv_at hl 2 rfl) ?_
  refine z_ri (z_runSN (As := [.int p2]) (rest := []) hF (c_X8_isCell l D cI cC cZ p2 _ _ hw) ⟨va_cnB 1 hz (z_gN z1_236) rfl rfl rfl (hK.2.1 _ (List.mem_of_getElem? (i := 19) rfl)) (hz _ z1_1) hd_X8_isCell ⟨Nat.le_of_ble_eq_true rfl, Nat.le_of_ble_eq_true rfl⟩, (hz _ z1_235), trivial⟩ hK hP hD [] rfl rfl rfl hl.1 rfl (Nat.le_of_ble_eq_true rfl) dX6_lead_8 ⟨Nat.zero_le _, Nat.zero_le _⟩) hP hD hS hA [] rfl (fun _ => rfl) (fun _ => cw_X6_lead cI h h_ways g_milky f_ways) (fun _ => rfl) (fun r8 u8 H locs hw hP hD hS => ?_)
  obtain ⟨hn8, hw⟩ := hw
  try dsimp only at hw
  refine lv_if_ne (tgt := 15) hx hb dX6_lead_11 (by decide) (fun c11 => ?_) (fun c11 => ?_)
  · have hw := hw.2 c11
    refine lv_aload_n hx hb dX6_lead_15 rfl (lv_at hl 0 rfl) ?_
    refine va_get (D := D) (ci := 6) (v := .ref h_ways) (C := RX6) (T := TX6) (N := 2) hx hb hz hX_X6 hown hK.1 hP 0 rfl rfl 0 (by decide) (hz _ z1_72) (fun _ h9 => h9) rfl dX6_lead_16 ?_
    refine lv_iload_n hx hb dX6_lead_19 rfl (lv_at hl 1 rfl) ?_
    refine lv_iload_n hx hb dX6_lead_20 rfl (lv_at hl 3 rfl) ?_
    refine lv_if_eq (tgt := 37) hx hb dX6_lead_21 (by decide) (fun c21 => ?_) (fun c21 => ?_)
    · have hw := hw.1 c21
      refine lv_aload_n hx hb dX6_lead_37 rfl (lv_at hl 0 rfl) ?_
      refine va_get (D := D) (ci := 6) (v := .ref h_ways) (C := RX6) (T := TX6) (N := 2) hx hb hz hX_X6 hown hK.1 hP 0 rfl rfl 0 (by decide) (hz _ z1_72) (fun _ h9 => h9) rfl dX6_lead_38 ?_
      refine lv_iload_n hx hb dX6_lead_41 rfl (lv_at hl 1 rfl) ?_
      obtain ⟨hi42, hw⟩ := hw
      refine va_iald hx hb hK.1 hP 1 0 rfl rfl hi42 dX6_lead_42 ?_
      refine lv_iconst (v := (1 : Int32)) hx hb dX6_lead_43 (by decide) ?_
      refine lv_iload_n hx hb dX6_lead_44 rfl (lv_at hl 2 rfl) ?_
      refine lv_ishl hx hb dX6_lead_45 ?_
      refine lv_iconst (v := (-1 : Int32)) hx hb dX6_lead_46 (by decide) ?_
      refine lv_ixor hx hb dX6_lead_47 ?_
      refine lv_iand hx hb dX6_lead_48 ?_
      exact J49 f_ways p1 ((f_ways p1.toNatClampNeg) &&& (((1 : Int32) <<< (p2 &&& 31)) ^^^ (-1 : Int32))) _ _ _ hw hP hD hS (lv_sub hl [0, 1, 2, 3] rfl)
    have hw := hw.2 c21
    refine lv_aload_n hx hb dX6_lead_24 rfl (lv_at hl 0 rfl) ?_
    refine va_get (D := D) (ci := 6) (v := .ref h_ways) (C := RX6) (T := TX6) (N := 2) hx hb hz hX_X6 hown hK.1 hP 0 rfl rfl 0 (by decide) (hz _ z1_72) (fun _ h9 => h9) rfl dX6_lead_25 ?_
    refine lv_iload_n hx hb dX6_lead_28 rfl (lv_at hl 1 rfl) ?_
    obtain ⟨hi29, hw⟩ := hw
    refine va_iald hx hb hK.1 hP 1 0 rfl rfl hi29 dX6_lead_29 ?_
    refine lv_iconst (v := (1 : Int32)) hx hb dX6_lead_30 (by decide) ?_
    refine lv_iload_n hx hb dX6_lead_31 rfl (lv_at hl 2 rfl) ?_
    refine lv_ishl hx hb dX6_lead_32 ?_
    refine lv_ior hx hb dX6_lead_33 ?_
    refine lv_goto (tgt := 49) hx hb dX6_lead_34 (by decide) ?_
    exact J49 f_ways p1 ((f_ways p1.toNatClampNeg) ||| ((1 : Int32) <<< (p2 &&& 31))) _ _ _ hw hP hD hS (lv_sub hl [0, 1, 2, 3] rfl)
  have hw := hw.1 c11
  exact z_vret hx hb hr hlocks f_ways hw hP hS dX6_lead_14
abbrev cw_X6_countWays (cI : ClassId) (h h_ways : Nat) (g_milky : Value) (f_ways : Nat → Int32) : va_W := [(h, .inr (6, [.ref h_ways, g_milky])), (h_ways, .inl (cI, 12, .inl f_ways))]
abbrev q_X6_countWays (D : va_G) (cI : ClassId) (h h_ways : Nat) (g_milky : Value) (post : Int32 → Prop) (f_ways : Nat → Int32) (A : Nat → Prop) : Array Value → State → Outcome → State → Prop := va_Qi (S := Unit) (fun r _ => post r ) (fun _ t => va_P D vwCl (cw_X6_countWays cI h h_ways g_milky f_ways) t.heap) A
abbrev v_X6_countWays : List Cond := .code yX6_countWays cX6_countWays 3 (some .int) :: zB
theorem hd_X6_countWays : yX6_countWays.cls = RX6 ∧ yX6_countWays.cls ≠ "java/lang/invoke/MethodHandle" ∧ yX6_countWays.cls ≠ "java/lang/invoke/VarHandle" ∧ (parseMethodDescriptor yX6_countWays.desc).map (fun d => d.parameters.length) = some 0 := by decide +kernel
set_option maxHeartbeats 4000000 in
set_option maxRecDepth 100000 in
theorem c_X6_countWays (l : Launch) (D : va_G) (cI cC cZ : ClassId) (h h_ways : Nat) (g_milky : Value) (f_ways : Nat → Int32) (sz : Nat) (post : Int32 → Prop) (hw : w_X6_countWays post f_ways) : Met l yX6_countWays v_X6_countWays ({ frames := 1, cells := 0, slots := 0, locals := 20 } : Room) (va_Pc [.ref h] (zPre D (zT cI cC cZ) sz (cw_X6_countWays cI h h_ways g_milky f_ways))) (q_X6_countWays D cI h h_ways g_milky post f_ways (va_A (cw_X6_countWays cI h h_ways g_milky f_ways) sz)) 0 0 (va_A (cw_X6_countWays cI h h_ways g_milky f_ways) sz) := by
  refine Met.ofW (cc := cX6_countWays) (maxL := 3) (ret := (some .int)) (by decide) rfl ?_
  intro p e s m args below meth c s₁ B hml hv
  obtain ⟨rfl, hsz, hP, hK, hD0⟩ := hv
  subst hsz
  have hx := B.exec
  have hb := B.bytes
  have hr := B.returns
  have hz : ∀ w ∈ zB, w.before _ s = true := fun w h => atoms_spec (ws := v_X6_countWays) B.pre w (List.mem_cons_of_mem _ h)
  have hown : s.vm.findClass RX6 = some m.cls := findClass_of_methodNamed B.named
  have hlocks := B.notSynchronized
  have hF : CallFix p m c cX6_countWays 3 s (([.ref h] : List Value).toArray) zB RX6 := ⟨hx, hb, hml, hown, hz⟩
  have hD := hD0.self (sz := s.heap.size)
  generalize hAe : va_A (cw_X6_countWays cI h h_ways g_milky f_ways) s.heap.size = A at hD ⊢
  have hA : ∀ q : Nat, s.heap.size ≤ q → A q := fun q h => by rw [← hAe]; exact Or.inr h
  have hS : va_S A s.heap s.heap [] := va_S.rf
  have hP : va_P D vwCl (cw_X6_countWays cI h h_ways g_milky f_ways) s.heap := hP
  have hl := lv_entry ([.ref h]) (n := 3) (Nat.le_of_ble_eq_true rfl)
  rw [lg_entry_eq]
  generalize (lg_sl ([.ref h]) ++ List.replicate (3 - (lg_sl ([.ref h])).length) Slot.unset).toArray = ls at hl ⊢
  have hl : lv_has ls 3 [(0, .ref h)] := hl
  have L4 : ∀ (n4 : Nat) (x1 : Int32) (x2 : Int32) (H : Heap) (locs : List Loc) (ls : Array Slot) (hw : w_X6_countWays_B4 post f_ways n4 x1 x2) (hP : va_P D vwCl (cw_X6_countWays cI h h_ways g_milky f_ways) H) (hD : va_D A (cw_X6_countWays cI h h_ways g_milky f_ways)) (hS : va_S A s.heap H locs) (hl : lv_has ls 3 [(0, .ref h), (1, .int x1), (2, .int x2)]), W p l e (headSpec v_X6_countWays ({ frames := 1, cells := 0, slots := 0, locals := 20 } : Room)).room s m (([.ref h] : List Value).toArray) below meth c H locs 0 0 (MQ below (q_X6_countWays D cI h h_ways g_milky post f_ways A) (([.ref h] : List Value).toArray) s 0 0 A) (F0 m 4 ls []) := by
    intro n4
    induction n4 with
    | zero => intro x1 x2 H locs ls hw; exact False.elim hw
    | succ n4 ih4 =>
      intro x1 x2 H locs ls hw hP hD hS hl
      unfold w_X6_countWays_B4 at hw
      refine lv_iload_n hx hb dX6_countWays_4 rfl (lv_at hl 2 rfl) ?_
      refine lv_bipush (v := (12 : Int32)) hx hb dX6_countWays_5 (by decide) ?_
      refine lv_icmp_ge (tgt := 28) hx hb dX6_countWays_7 (by decide) (fun c7 => ?_) (fun c7 => ?_)
      · have hw := hw.1 c7
        refine lv_iload_n hx hb dX6_countWays_28 rfl (lv_at hl 1 rfl) ?_
        refine lv_iconst (v := (2 : Int32)) hx hb dX6_countWays_29 (by decide) ?_
        refine lv_idiv hx hb dX6_countWays_30 (by decide) ?_
        exact z_iret hx hb hr hlocks () hw hP hS dX6_countWays_31
      have hw := hw.2 c7
      refine lv_iload_n hx hb dX6_countWays_10 rfl (lv_at hl 1 rfl) ?_
      refine lv_aload_n hx hb dX6_countWays_11 rfl (lv_at hl 0 rfl) ?_
      refine va_get (D := D) (ci := 6) (v := .ref h_ways) (C := RX6) (T := TX6) (N := 2) hx hb hz hX_X6 hown hK.1 hP 0 rfl rfl 0 (by decide) (hz _ z1_72) (fun _ h9 => h9) rfl dX6_countWays_12 ?_
      refine lv_iload_n hx hb dX6_countWays_15 rfl (lv_at hl 2 rfl) ?_
      obtain ⟨hi16, hw⟩ := hw
      refine va_iald hx hb hK.1 hP 1 0 rfl rfl hi16 dX6_countWays_16 ?_
      refine z_ri (z_runS (As := [.int (f_ways x2.toNatClampNeg)]) (rest := [.int x1]) hF (c_J6_bitCount_0f7a4 l D cI cC cZ (f_ways x2.toNatClampNeg) _ _ hw) (va_cwS 1 hz (z_gS z2_6 z1_221 z1_11 z1_222) rfl rfl rfl hd_J6_bitCount_0f7a4 ⟨Nat.le_of_ble_eq_true rfl, Nat.le_of_ble_eq_true rfl⟩) hK hP hD [] rfl rfl rfl hl.1 rfl (Nat.le_of_ble_eq_true rfl) dX6_countWays_17 ⟨Nat.zero_le _, Nat.zero_le _⟩) hP hD hS hA [] rfl (fun _ => rfl) (fun _ => cw_X6_countWays cI h h_ways g_milky f_ways) (fun _ => rfl) (fun r17 u17 H locs hw hP hD hS => ?_)
      try dsimp only at hw
      refine lv_iadd hx hb dX6_countWays_20 ?_
      refine lv_istore_n (lv' := [(1, .int (x1 + r17)), (0, .ref h), (2, .int x2)]) hx hb dX6_countWays_21 rfl hl (by decide) rfl (fun ls hl => ?_)
      refine lv_iinc (k := 2) (v := (x2 + 1)) (lv' := [(2, .int (x2 + 1)), (1, .int (x1 + r17)), (0, .ref h)]) hx hb dX6_countWays_22 hl rfl rfl (by decide) rfl (fun ls hl => ?_)
      refine lv_goto (tgt := 4) hx hb dX6_countWays_25 (by decide) ?_
      exact ih4 (x1 + r17) (x2 + 1) _ _ _ hw hP hD hS (lv_sub hl [2, 1, 0] rfl)
  unfold w_X6_countWays at hw
  refine lv_iconst (v := (0 : Int32)) hx hb dX6_countWays_0 (by decide) ?_
  refine lv_istore_n (lv' := [(1, .int (0 : Int32)), (0, .ref h)]) hx hb dX6_countWays_1 rfl hl (by decide) rfl (fun ls hl => ?_)
  refine lv_iconst (v := (0 : Int32)) hx hb dX6_countWays_2 (by decide) ?_
  refine lv_istore_n (lv' := [(2, .int (0 : Int32)), (1, .int (0 : Int32)), (0, .ref h)]) hx hb dX6_countWays_3 rfl hl (by decide) rfl (fun ls hl => ?_)
  obtain ⟨n4, hw⟩ := hw
  exact L4 n4 (0 : Int32) (0 : Int32) _ _ _ hw hP hD hS (lv_sub hl [2, 1, 0] rfl)
abbrev cw_X8_way (cI : ClassId) (h h_world h_world_town h_world_town_ways : Nat) (g_images g_pad g_hearing g_bowls g_guesses g_world_court g_world_sights g_world_town_milky : Value) (f_world_town_ways : Nat → Int32) : va_W := [(h, .inr (8, [.ref h_world, g_images, g_pad, g_hearing, g_bowls, g_guesses])), (h_world, .inr (7, [g_world_court, .ref h_world_town, g_world_sights])), (h_world_town, .inr (6, [.ref h_world_town_ways, g_world_town_milky])), (h_world_town_ways, .inl (cI, 12, .inl f_world_town_ways))]
abbrev q_X8_way (D : va_G) (cI : ClassId) (h h_world h_world_town h_world_town_ways : Nat) (g_images g_pad g_hearing g_bowls g_guesses g_world_court g_world_sights g_world_town_milky : Value) (post : Int32 → (Nat → Int32) → Prop) (A : Nat → Prop) : Array Value → State → Outcome → State → Prop := va_Qi (S := (Nat → Int32)) (fun r u => post r u) (fun u t => va_P D vwCl (cw_X8_way cI h h_world h_world_town h_world_town_ways g_images g_pad g_hearing g_bowls g_guesses g_world_court g_world_sights g_world_town_milky u) t.heap) A
abbrev v_X8_way : List Cond := .code yX8_way cX8_way 4 (some .int) :: zB
theorem hd_X8_way : yX8_way.cls = RX8 ∧ yX8_way.cls ≠ "java/lang/invoke/MethodHandle" ∧ yX8_way.cls ≠ "java/lang/invoke/VarHandle" ∧ (parseMethodDescriptor yX8_way.desc).map (fun d => d.parameters.length) = some 3 := by decide +kernel
set_option maxHeartbeats 4000000 in
set_option maxRecDepth 100000 in
theorem c_X8_way (l : Launch) (D : va_G) (cI cC cZ : ClassId) (h h_world h_world_town h_world_town_ways : Nat) (g_images g_pad g_hearing g_bowls g_guesses g_world_court g_world_sights g_world_town_milky : Value) (f_world_town_ways : Nat → Int32) (p1 : Int32) (p2 : Int32) (p3 : Int32) (sz : Nat) (post : Int32 → (Nat → Int32) → Prop) (hw : w_X8_way post f_world_town_ways p1 p2 p3) : Met l yX8_way v_X8_way ({ frames := 2, cells := 0, slots := 0, locals := 43 } : Room) (va_Pc [.ref h, .int p1, .int p2, .int p3] (zPre D (zT cI cC cZ) sz (cw_X8_way cI h h_world h_world_town h_world_town_ways g_images g_pad g_hearing g_bowls g_guesses g_world_court g_world_sights g_world_town_milky f_world_town_ways))) (q_X8_way D cI h h_world h_world_town h_world_town_ways g_images g_pad g_hearing g_bowls g_guesses g_world_court g_world_sights g_world_town_milky post (va_A (cw_X8_way cI h h_world h_world_town h_world_town_ways g_images g_pad g_hearing g_bowls g_guesses g_world_court g_world_sights g_world_town_milky f_world_town_ways) sz)) 0 0 (va_A (cw_X8_way cI h h_world h_world_town h_world_town_ways g_images g_pad g_hearing g_bowls g_guesses g_world_court g_world_sights g_world_town_milky f_world_town_ways) sz) := by
  refine Met.ofW (cc := cX8_way) (maxL := 4) (ret := (some .int)) (by decide) rfl ?_
  intro p e s m args below meth c s₁ B hml hv
  obtain ⟨rfl, hsz, hP, hK, hD0⟩ := hv
  subst hsz
  have hx := B.exec
  have hb := B.bytes
  have hr := B.returns
  have hz : ∀ w ∈ zB, w.before _ s = true := fun w h => atoms_spec (ws := v_X8_way) B.pre w (List.mem_cons_of_mem _ h)
  have hown : s.vm.findClass RX8 = some m.cls := findClass_of_methodNamed B.named
  have hlocks := B.notSynchronized
  have hF : CallFix p m c cX8_way 4 s (([.ref h, .int p1, .int p2, .int p3] : List Value).toArray) zB RX8 := ⟨hx, hb, hml, hown, hz⟩
  have hD := hD0.self (sz := s.heap.size)
  generalize hAe : va_A (cw_X8_way cI h h_world h_world_town h_world_town_ways g_images g_pad g_hearing g_bowls g_guesses g_world_court g_world_sights g_world_town_milky f_world_town_ways) s.heap.size = A at hD ⊢
  have hA : ∀ q : Nat, s.heap.size ≤ q → A q := fun q h => by rw [← hAe]; exact Or.inr h
  have hS : va_S A s.heap s.heap [] := va_S.rf
  have hP : va_P D vwCl (cw_X8_way cI h h_world h_world_town h_world_town_ways g_images g_pad g_hearing g_bowls g_guesses g_world_court g_world_sights g_world_town_milky f_world_town_ways) s.heap := hP
  have hl := lv_entry ([.ref h, .int p1, .int p2, .int p3]) (n := 4) (Nat.le_of_ble_eq_true rfl)
  rw [lg_entry_eq]
  generalize (lg_sl ([.ref h, .int p1, .int p2, .int p3]) ++ List.replicate (4 - (lg_sl ([.ref h, .int p1, .int p2, .int p3])).length) Slot.unset).toArray = ls at hl ⊢
  have hl : lv_has ls 4 [(0, .ref h), (1, .int p1), (2, .int p2), (3, .int p3)] := hl
  unfold w_X8_way at hw
  refine lv_iload_n hx hb dX8_way_0 rfl (lv_at hl 1 rfl) ?_
  refine z_ri (z_runS (As := [.int p1]) (rest := []) hF (c_X8_isCell l D cI cC cZ p1 _ _ hw) (va_cwS 1 hz (z_gS z1_234 z1_235 z1_1 z1_236) rfl rfl rfl hd_X8_isCell ⟨Nat.le_of_ble_eq_true rfl, Nat.le_of_ble_eq_true rfl⟩) hK hP hD [] rfl rfl rfl hl.1 rfl (Nat.le_of_ble_eq_true rfl) dX8_way_1 ⟨Nat.zero_le _, Nat.zero_le _⟩) hP hD hS hA [] rfl (fun _ => rfl) (fun _ => cw_X8_way cI h h_world h_world_town h_world_town_ways g_images g_pad g_hearing g_bowls g_guesses g_world_court g_world_sights g_world_town_milky f_world_town_ways) (fun _ => rfl) (fun r1 u1 H locs hw hP hD hS => ?_)
  obtain ⟨hn1, hw⟩ := hw
  try dsimp only at hw
  refine lv_if_eq (tgt := 19) hx hb dX8_way_4 (by decide) (fun c4 => ?_) (fun c4 => ?_)
  · have hw := hw.1 c4
    refine lv_iconst (v := (-1 : Int32)) hx hb dX8_way_19 (by decide) ?_
    exact z_iret hx hb hr hlocks f_world_town_ways hw hP hS dX8_way_20
  have hw := hw.2 c4
  refine lv_iload_n hx hb dX8_way_7 rfl (lv_at hl 2 rfl) ?_
  refine z_ri (z_runS (As := [.int p2]) (rest := []) hF (c_X8_isCell l D cI cC cZ p2 _ _ hw) (va_cwS 1 hz (z_gS z1_234 z1_235 z1_1 z1_236) rfl rfl rfl hd_X8_isCell ⟨Nat.le_of_ble_eq_true rfl, Nat.le_of_ble_eq_true rfl⟩) hK hP hD [] rfl rfl rfl hl.1 rfl (Nat.le_of_ble_eq_true rfl) dX8_way_8 ⟨Nat.zero_le _, Nat.zero_le _⟩) hP hD hS hA [] rfl (fun _ => rfl) (fun _ => cw_X8_way cI h h_world h_world_town h_world_town_ways g_images g_pad g_hearing g_bowls g_guesses g_world_court g_world_sights g_world_town_milky f_world_town_ways) (fun _ => rfl) (fun r8 u8 H locs hw hP hD hS => ?_)
  obtain ⟨hn8, hw⟩ := hw
  try dsimp only at hw
  refine lv_if_eq (tgt := 19) hx hb dX8_way_11 (by decide) (fun c11 => ?_) (fun c11 => ?_)
  · have hw := hw.1 c11
    refine lv_iconst (v := (-1 : Int32)) hx hb dX8_way_19 (by decide) ?_
    exact z_iret hx hb hr hlocks f_world_town_ways hw hP hS dX8_way_20
  have hw := hw.2 c11
  refine lv_iload_n hx hb dX8_way_14 rfl (lv_at hl 1 rfl) ?_
  refine lv_iload_n hx hb dX8_way_15 rfl (lv_at hl 2 rfl) ?_
  refine lv_icmp_ne (tgt := 21) hx hb dX8_way_16 (by decide) (fun c16 => ?_) (fun c16 => ?_)
  · have hw := hw.2 c16
    refine lv_aload_n hx hb dX8_way_21 rfl (lv_at hl 0 rfl) ?_
    refine va_get (D := D) (ci := 8) (v := .ref h_world) (C := RX8) (T := TX8) (N := 6) hx hb hz hX_X8 hown hK.1 hP 0 rfl rfl 0 (by decide) (hz _ z1_183) (fun _ h9 => h9) rfl dX8_way_22 ?_
    refine va_getN (D := D) (ci := 7) (v := .ref h_world_town) (C := RX7) (T := TX7) (N := 3) hx hb hz hX_X7 hown hK.1 hP 1 rfl rfl 1 (by decide) (va_Nw.use rfl (hK.2.1 _ (List.mem_of_getElem? (i := 8) rfl))) (fun _ h9 => h9) rfl dX8_way_25 ?_
    refine lv_iload_n hx hb dX8_way_28 rfl (lv_at hl 1 rfl) ?_
    refine lv_iload_n hx hb dX8_way_29 rfl (lv_at hl 2 rfl) ?_
    refine lv_iload_n hx hb dX8_way_30 rfl (lv_at hl 3 rfl) ?_
    refine z_rv (z_runV (As := [.int p1, .int p2, .int p3]) (rest := []) hF (c_X6_lead l D cI cC cZ h_world_town h_world_town_ways g_world_town_milky f_world_town_ways p1 p2 p3 _ _ hw) (cwV 3 hz (z_gV z1_237 z1_238 z1_239 z1_4 z2_0) rfl rfl rfl hd_X6_lead ⟨Nat.le_of_ble_eq_true rfl, Nat.le_of_ble_eq_true rfl⟩) hK hP hD [2, 3] rfl rfl 2 6 rfl rfl rfl rfl hl.1 rfl (Nat.le_of_ble_eq_true rfl) dX8_way_31 ⟨Nat.zero_le _, Nat.zero_le _⟩) hP hD hS hA [2, 3] rfl (fun _ => rfl) (fun u => cw_X8_way cI h h_world h_world_town h_world_town_ways g_images g_pad g_hearing g_bowls g_guesses g_world_court g_world_sights g_world_town_milky u) (fun _ => rfl) (fun u31_0 H locs hw hP hD hS => ?_)
    try dsimp only at hw
    have hP : va_P D vwCl (cw_X8_way cI h h_world h_world_town h_world_town_ways g_images g_pad g_hearing g_bowls g_guesses g_world_court g_world_sights g_world_town_milky u31_0) H := hP
    have hD : va_D A (cw_X8_way cI h h_world h_world_town h_world_town_ways g_images g_pad g_hearing g_bowls g_guesses g_world_court g_world_sights g_world_town_milky u31_0) := hD
    refine lv_aload_n hx hb dX8_way_34 rfl (lv_at hl 0 rfl) ?_
    refine va_get (D := D) (ci := 8) (v := .ref h_world) (C := RX8) (T := TX8) (N := 6) hx hb hz hX_X8 hown hK.1 hP 0 rfl rfl 0 (by decide) (hz _ z1_183) (fun _ h9 => h9) rfl dX8_way_35 ?_
    refine va_getN (D := D) (ci := 7) (v := .ref h_world_town) (C := RX7) (T := TX7) (N := 3) hx hb hz hX_X7 hown hK.1 hP 1 rfl rfl 1 (by decide) (va_Nw.use rfl (hK.2.1 _ (List.mem_of_getElem? (i := 8) rfl))) (fun _ h9 => h9) rfl dX8_way_38 ?_
    refine z_ri (z_runV (As := []) (rest := []) hF (c_X6_countWays l D cI cC cZ h_world_town h_world_town_ways g_world_town_milky u31_0 _ _ hw) (cwV 0 hz (z_gV z2_2 z2_3 z2_4 z1_4 z2_5) rfl rfl rfl hd_X6_countWays ⟨Nat.le_of_ble_eq_true rfl, Nat.le_of_ble_eq_true rfl⟩) hK hP hD [2, 3] rfl rfl 2 6 rfl rfl rfl rfl hl.1 rfl (Nat.le_of_ble_eq_true rfl) dX8_way_41 ⟨Nat.zero_le _, Nat.zero_le _⟩) hP hD hS hA [2, 3] rfl (fun _ => rfl) (fun _ => cw_X8_way cI h h_world h_world_town h_world_town_ways g_images g_pad g_hearing g_bowls g_guesses g_world_court g_world_sights g_world_town_milky u31_0) (fun _ => rfl) (fun r41 u41 H locs hw hP hD hS => ?_)
    try dsimp only at hw
    exact z_iret hx hb hr hlocks u31_0 hw hP hS dX8_way_44
  have hw := hw.1 c16
  refine lv_iconst (v := (-1 : Int32)) hx hb dX8_way_19 (by decide) ?_
  exact z_iret hx hb hr hlocks f_world_town_ways hw hP hS dX8_way_20
abbrev cw_X8_milk (h h_world h_world_town : Nat) (g_images g_pad g_hearing g_bowls g_guesses g_world_court g_world_sights g_world_town_ways : Value) (f_world_town_milky : Int32) : va_W := [(h, .inr (8, [.ref h_world, g_images, g_pad, g_hearing, g_bowls, g_guesses])), (h_world, .inr (7, [g_world_court, .ref h_world_town, g_world_sights])), (h_world_town, .inr (6, [g_world_town_ways, .int f_world_town_milky]))]
abbrev q_X8_milk (D : va_G) (h h_world h_world_town : Nat) (g_images g_pad g_hearing g_bowls g_guesses g_world_court g_world_sights g_world_town_ways : Value) (post : Int32 → Int32 → Prop) (A : Nat → Prop) : Array Value → State → Outcome → State → Prop := va_Qi (S := Int32) (fun r u => post r u) (fun u t => va_P D vwCl (cw_X8_milk h h_world h_world_town g_images g_pad g_hearing g_bowls g_guesses g_world_court g_world_sights g_world_town_ways u) t.heap) A
abbrev v_X8_milk : List Cond := .code yX8_milk cX8_milk 3 (some .int) :: zB
theorem hd_X8_milk : yX8_milk.cls = RX8 ∧ yX8_milk.cls ≠ "java/lang/invoke/MethodHandle" ∧ yX8_milk.cls ≠ "java/lang/invoke/VarHandle" ∧ (parseMethodDescriptor yX8_milk.desc).map (fun d => d.parameters.length) = some 1 := by decide +kernel
set_option maxHeartbeats 4000000 in
set_option maxRecDepth 100000 in
theorem c_X8_milk (l : Launch) (D : va_G) (cI cC cZ : ClassId) (h h_world h_world_town : Nat) (g_images g_pad g_hearing g_bowls g_guesses g_world_court g_world_sights g_world_town_ways : Value) (f_world_town_milky : Int32) (p1 : Int32) (sz : Nat) (post : Int32 → Int32 → Prop) (hw : w_X8_milk post f_world_town_milky p1) : Met l yX8_milk v_X8_milk ({ frames := 1, cells := 0, slots := 0, locals := 22 } : Room) (va_Pc [.ref h, .int p1] (zPre D (zT cI cC cZ) sz (cw_X8_milk h h_world h_world_town g_images g_pad g_hearing g_bowls g_guesses g_world_court g_world_sights g_world_town_ways f_world_town_milky))) (q_X8_milk D h h_world h_world_town g_images g_pad g_hearing g_bowls g_guesses g_world_court g_world_sights g_world_town_ways post (va_A (cw_X8_milk h h_world h_world_town g_images g_pad g_hearing g_bowls g_guesses g_world_court g_world_sights g_world_town_ways f_world_town_milky) sz)) 0 0 (va_A (cw_X8_milk h h_world h_world_town g_images g_pad g_hearing g_bowls g_guesses g_world_court g_world_sights g_world_town_ways f_world_town_milky) sz) := by
  refine Met.ofW (cc := cX8_milk) (maxL := 3) (ret := (some .int)) (by decide) rfl ?_
  intro p e s m args below meth c s₁ B hml hv
  obtain ⟨rfl, hsz, hP, hK, hD0⟩ := hv
  subst hsz
  have hx := B.exec
  have hb := B.bytes
  have hr := B.returns
  have hz : ∀ w ∈ zB, w.before _ s = true := fun w h => atoms_spec (ws := v_X8_milk) B.pre w (List.mem_cons_of_mem _ h)
  have hown : s.vm.findClass RX8 = some m.cls := findClass_of_methodNamed B.named
  have hlocks := B.notSynchronized
  have hF : CallFix p m c cX8_milk 3 s (([.ref h, .int p1] : List Value).toArray) zB RX8 := ⟨hx, hb, hml, hown, hz⟩
  have hD := hD0.self (sz := s.heap.size)
  generalize hAe : va_A (cw_X8_milk h h_world h_world_town g_images g_pad g_hearing g_bowls g_guesses g_world_court g_world_sights g_world_town_ways f_world_town_milky) s.heap.size = A at hD ⊢
  have hA : ∀ q : Nat, s.heap.size ≤ q → A q := fun q h => by rw [← hAe]; exact Or.inr h
  have hS : va_S A s.heap s.heap [] := va_S.rf
  have hP : va_P D vwCl (cw_X8_milk h h_world h_world_town g_images g_pad g_hearing g_bowls g_guesses g_world_court g_world_sights g_world_town_ways f_world_town_milky) s.heap := hP
  have hl := lv_entry ([.ref h, .int p1]) (n := 3) (Nat.le_of_ble_eq_true rfl)
  rw [lg_entry_eq]
  generalize (lg_sl ([.ref h, .int p1]) ++ List.replicate (3 - (lg_sl ([.ref h, .int p1])).length) Slot.unset).toArray = ls at hl ⊢
  have hl : lv_has ls 3 [(0, .ref h), (1, .int p1)] := hl
  unfold w_X8_milk at hw
  refine lv_iload_n hx hb dX8_milk_0 rfl (lv_at hl 1 rfl) ?_
  refine lv_iconst (v := (0 : Int32)) hx hb dX8_milk_1 (by decide) ?_
  refine lv_sipush (v := (4095 : Int32)) hx hb dX8_milk_2 (by decide) ?_
  refine z_ri (z_runS (As := [.int p1, .int (0 : Int32), .int (4095 : Int32)]) (rest := []) hF (c_X8_within l D cI cC cZ p1 (0 : Int32) (4095 : Int32) _ _ hw) (va_cwS 3 hz (z_gS z1_212 z1_213 z1_1 z1_214) rfl rfl rfl hd_X8_within ⟨Nat.le_of_ble_eq_true rfl, Nat.le_of_ble_eq_true rfl⟩) hK hP hD [] rfl rfl rfl hl.1 rfl (Nat.le_of_ble_eq_true rfl) dX8_milk_5 ⟨Nat.zero_le _, Nat.zero_le _⟩) hP hD hS hA [] rfl (fun _ => rfl) (fun _ => cw_X8_milk h h_world h_world_town g_images g_pad g_hearing g_bowls g_guesses g_world_court g_world_sights g_world_town_ways f_world_town_milky) (fun _ => rfl) (fun r5 u5 H locs hw hP hD hS => ?_)
  obtain ⟨hn5, hw⟩ := hw
  try dsimp only at hw
  refine lv_if_ne (tgt := 14) hx hb dX8_milk_8 (by decide) (fun c8 => ?_) (fun c8 => ?_)
  · have hw := hw.2 c8
    refine lv_aload_n hx hb dX8_milk_14 rfl (lv_at hl 0 rfl) ?_
    refine va_get (D := D) (ci := 8) (v := .ref h_world) (C := RX8) (T := TX8) (N := 6) hx hb hz hX_X8 hown hK.1 hP 0 rfl rfl 0 (by decide) (hz _ z1_183) (fun _ h9 => h9) rfl dX8_milk_15 ?_
    refine va_getN (D := D) (ci := 7) (v := .ref h_world_town) (C := RX7) (T := TX7) (N := 3) hx hb hz hX_X7 hown hK.1 hP 1 rfl rfl 1 (by decide) (va_Nw.use rfl (hK.2.1 _ (List.mem_of_getElem? (i := 8) rfl))) (fun _ h9 => h9) rfl dX8_milk_18 ?_
    refine va_getN (D := D) (ci := 6) (v := .int f_world_town_milky) (C := RX6) (T := TX6) (N := 2) hx hb hz hX_X6 hown hK.1 hP 2 rfl rfl 1 (by decide) (va_Nw.use rfl (hK.2.1 _ (List.mem_of_getElem? (i := 5) rfl))) (fun _ h9 => h9) rfl dX8_milk_21 ?_
    refine lv_istore_n (lv' := [(2, .int f_world_town_milky), (0, .ref h), (1, .int p1)]) hx hb dX8_milk_24 rfl hl (by decide) rfl (fun ls hl => ?_)
    refine lv_aload_n hx hb dX8_milk_25 rfl (lv_at hl 1 rfl) ?_
    refine va_get (D := D) (ci := 8) (v := .ref h_world) (C := RX8) (T := TX8) (N := 6) hx hb hz hX_X8 hown hK.1 hP 0 rfl rfl 0 (by decide) (hz _ z1_183) (fun _ h9 => h9) rfl dX8_milk_26 ?_
    refine va_getN (D := D) (ci := 7) (v := .ref h_world_town) (C := RX7) (T := TX7) (N := 3) hx hb hz hX_X7 hown hK.1 hP 1 rfl rfl 1 (by decide) (va_Nw.use rfl (hK.2.1 _ (List.mem_of_getElem? (i := 8) rfl))) (fun _ h9 => h9) rfl dX8_milk_29 ?_
    refine lv_iload_n hx hb dX8_milk_32 rfl (lv_at hl 2 rfl) ?_
    refine va_putN (D := D) (ci := 6) (v := .int p1) (ty := .int) (C := RX6) (T := TX6) (N := 2) hx hb hz hX_X6 tyX6 tyX6_ok nmX6 hown hK.1 hP hD hS 2 rfl rfl 1 (by decide) (va_Nw.use rfl (hK.2.1 _ (List.mem_of_getElem? (i := 5) rfl))) (fun _ h9 => h9) rfl (tyX6_ok 1 (by decide)) rfl rfl (Nat.le_of_ble_eq_true rfl) dX8_milk_33 (fun H locs hP hD hS => ?_)
    have hP : va_P D vwCl (cw_X8_milk h h_world h_world_town g_images g_pad g_hearing g_bowls g_guesses g_world_court g_world_sights g_world_town_ways p1) H := hP
    have hD : va_D A (cw_X8_milk h h_world h_world_town g_images g_pad g_hearing g_bowls g_guesses g_world_court g_world_sights g_world_town_ways p1) := hD
    refine lv_iload_n hx hb dX8_milk_36 rfl (lv_at hl 0 rfl) ?_
    exact z_iret hx hb hr hlocks p1 hw hP hS dX8_milk_37
  have hw := hw.1 c8
  refine lv_bipush (v := (-2 : Int32)) hx hb dX8_milk_11 (by decide) ?_
  exact z_iret hx hb hr hlocks f_world_town_milky hw hP hS dX8_milk_13
abbrev cw_X4_write (cC : ClassId) (h h_signs : Nat) (f_signs : Nat → Int32) (f_count : Int32) : va_W := [(h, .inr (4, [.ref h_signs, .int f_count])), (h_signs, .inl (cC, 60, .inl f_signs))]
abbrev q_X4_write (D : va_G) (cC : ClassId) (h h_signs : Nat) (post : (Nat → Int32) → Int32 → Prop) (A : Nat → Prop) : Array Value → State → Outcome → State → Prop := va_Qv (S := (Nat → Int32) × Int32) (fun u => post u.1 u.2) (fun u t => va_P D vwCl (cw_X4_write cC h h_signs u.1 u.2) t.heap) A
abbrev v_X4_write : List Cond := .code yX4_write cX4_write 2 none :: zB
theorem hd_X4_write : yX4_write.cls = RX4 ∧ yX4_write.cls ≠ "java/lang/invoke/MethodHandle" ∧ yX4_write.cls ≠ "java/lang/invoke/VarHandle" ∧ (parseMethodDescriptor yX4_write.desc).map (fun d => d.parameters.length) = some 1 := by decide +kernel
set_option maxHeartbeats 4000000 in
set_option maxRecDepth 100000 in
theorem c_X4_write (l : Launch) (D : va_G) (cI cC cZ : ClassId) (h h_signs : Nat) (f_signs : Nat → Int32) (f_count : Int32) (p1 : Int32) (sz : Nat) (post : (Nat → Int32) → Int32 → Prop) (hw : w_X4_write post f_signs f_count p1) : Met l yX4_write v_X4_write ({ frames := 1, cells := 0, slots := 0, locals := 22 } : Room) (va_Pc [.ref h, .int p1] (zPre D (zT cI cC cZ) sz (cw_X4_write cC h h_signs f_signs f_count))) (q_X4_write D cC h h_signs post (va_A (cw_X4_write cC h h_signs f_signs f_count) sz)) 0 0 (va_A (cw_X4_write cC h h_signs f_signs f_count) sz) := by
  refine Met.ofW (cc := cX4_write) (maxL := 2) (ret := none) (by decide) rfl ?_
  intro p e s m args below meth c s₁ B hml hv
  obtain ⟨rfl, hsz, hP, hK, hD0⟩ := hv
  subst hsz
  have hx := B.exec
  have hb := B.bytes
  have hr := B.returns
  have hz : ∀ w ∈ zB, w.before _ s = true := fun w h => atoms_spec (ws := v_X4_write) B.pre w (List.mem_cons_of_mem _ h)
  have hown : s.vm.findClass RX4 = some m.cls := findClass_of_methodNamed B.named
  have hlocks := B.notSynchronized
  have hF : CallFix p m c cX4_write 2 s (([.ref h, .int p1] : List Value).toArray) zB RX4 := ⟨hx, hb, hml, hown, hz⟩
  have hD := hD0.self (sz := s.heap.size)
  generalize hAe : va_A (cw_X4_write cC h h_signs f_signs f_count) s.heap.size = A at hD ⊢
  have hA : ∀ q : Nat, s.heap.size ≤ q → A q := fun q h => by rw [← hAe]; exact Or.inr h
  have hS : va_S A s.heap s.heap [] := va_S.rf
  have hP : va_P D vwCl (cw_X4_write cC h h_signs f_signs f_count) s.heap := hP
  have hl := lv_entry ([.ref h, .int p1]) (n := 2) (Nat.le_of_ble_eq_true rfl)
  rw [lg_entry_eq]
  generalize (lg_sl ([.ref h, .int p1]) ++ List.replicate (2 - (lg_sl ([.ref h, .int p1])).length) Slot.unset).toArray = ls at hl ⊢
  have hl : lv_has ls 2 [(0, .ref h), (1, .int p1)] := hl
  unfold w_X4_write at hw
  refine lv_aload_n hx hb dX4_write_0 rfl (lv_at hl 0 rfl) ?_
  refine va_get (D := D) (ci := 4) (v := .int f_count) (C := RX4) (T := TX4) (N := 2) hx hb hz hX_X4 hown hK.1 hP 0 rfl rfl 1 (by decide) (hz _ z1_118) (fun _ h9 => h9) rfl dX4_write_1 ?_
  refine lv_iconst (v := (0 : Int32)) hx hb dX4_write_4 (by decide) ?_
  refine lv_bipush (v := (59 : Int32)) hx hb dX4_write_5 (by decide) ?_
  refine z_ri (z_runSN (As := [.int f_count, .int (0 : Int32), .int (59 : Int32)]) (rest := []) hF (c_X8_within l D cI cC cZ f_count (0 : Int32) (59 : Int32) _ _ hw) ⟨va_cnB 3 hz (z_gN z1_214) rfl rfl rfl (hK.2.1 _ (List.mem_of_getElem? (i := 20) rfl)) (hz _ z1_1) hd_X8_within ⟨Nat.le_of_ble_eq_true rfl, Nat.le_of_ble_eq_true rfl⟩, (hz _ z1_213), trivial⟩ hK hP hD [] rfl rfl rfl hl.1 rfl (Nat.le_of_ble_eq_true rfl) dX4_write_7 ⟨Nat.zero_le _, Nat.zero_le _⟩) hP hD hS hA [] rfl (fun _ => rfl) (fun _ => cw_X4_write cC h h_signs f_signs f_count) (fun _ => rfl) (fun r7 u7 H locs hw hP hD hS => ?_)
  obtain ⟨hn7, hw⟩ := hw
  try dsimp only at hw
  refine lv_if_ne (tgt := 14) hx hb dX4_write_10 (by decide) (fun c10 => ?_) (fun c10 => ?_)
  · have hw := hw.2 c10
    refine lv_aload_n hx hb dX4_write_14 rfl (lv_at hl 0 rfl) ?_
    refine va_get (D := D) (ci := 4) (v := .ref h_signs) (C := RX4) (T := TX4) (N := 2) hx hb hz hX_X4 hown hK.1 hP 0 rfl rfl 0 (by decide) (hz _ z1_117) (fun _ h9 => h9) rfl dX4_write_15 ?_
    refine lv_aload_n hx hb dX4_write_18 rfl (lv_at hl 0 rfl) ?_
    refine va_get (D := D) (ci := 4) (v := .int f_count) (C := RX4) (T := TX4) (N := 2) hx hb hz hX_X4 hown hK.1 hP 0 rfl rfl 1 (by decide) (hz _ z1_118) (fun _ h9 => h9) rfl dX4_write_19 ?_
    refine lv_iload_n hx hb dX4_write_22 rfl (lv_at hl 1 rfl) ?_
    obtain ⟨hi23, hw⟩ := hw
    refine va_cast hx hb hK.1 hP hD hS 1 1 rfl rfl hi23 dX4_write_23 (fun H locs hP hD hS => ?_)
    have hP : va_P D vwCl (cw_X4_write cC h h_signs (upd f_signs f_count.toNatClampNeg (vp_nar .char p1)) f_count) H := hP
    have hD : va_D A (cw_X4_write cC h h_signs (upd f_signs f_count.toNatClampNeg (vp_nar .char p1)) f_count) := hD
    refine lv_aload_n hx hb dX4_write_24 rfl (lv_at hl 0 rfl) ?_
    refine lv_dup hx hb dX4_write_25 rfl ?_
    refine va_get (D := D) (ci := 4) (v := .int f_count) (C := RX4) (T := TX4) (N := 2) hx hb hz hX_X4 hown hK.1 hP 0 rfl rfl 1 (by decide) (hz _ z1_118) (fun _ h9 => h9) rfl dX4_write_26 ?_
    refine lv_iconst (v := (1 : Int32)) hx hb dX4_write_29 (by decide) ?_
    refine lv_iadd hx hb dX4_write_30 ?_
    refine va_put (D := D) (ci := 4) (v := .int (f_count + (1 : Int32))) (ty := .int) (C := RX4) (T := TX4) (N := 2) hx hb hz hX_X4 tyX4 tyX4_ok nmX4 hown hK.1 hP hD hS 0 rfl rfl 1 (by decide) (hz _ z1_118) (fun _ h9 => h9) rfl (tyX4_ok 1 (by decide)) rfl rfl (Nat.le_of_ble_eq_true rfl) dX4_write_31 (fun H locs hP hD hS => ?_)
    have hP : va_P D vwCl (cw_X4_write cC h h_signs (upd f_signs f_count.toNatClampNeg (vp_nar .char p1)) (f_count + (1 : Int32))) H := hP
    have hD : va_D A (cw_X4_write cC h h_signs (upd f_signs f_count.toNatClampNeg (vp_nar .char p1)) (f_count + (1 : Int32))) := hD
    exact z_vret hx hb hr hlocks ((upd f_signs f_count.toNatClampNeg (vp_nar .char p1)), (f_count + (1 : Int32))) hw hP hS dX4_write_34
  have hw := hw.1 c10
  exact z_vret hx hb hr hlocks (f_signs, f_count) hw hP hS dX4_write_13
abbrev cw_X8_say (cC : ClassId) (h h_pad h_pad_signs : Nat) (g_world g_images g_hearing g_bowls g_guesses : Value) (f_pad_signs : Nat → Int32) (f_pad_count : Int32) : va_W := [(h, .inr (8, [g_world, g_images, .ref h_pad, g_hearing, g_bowls, g_guesses])), (h_pad, .inr (4, [.ref h_pad_signs, .int f_pad_count])), (h_pad_signs, .inl (cC, 60, .inl f_pad_signs))]
abbrev q_X8_say (D : va_G) (cC : ClassId) (h h_pad h_pad_signs : Nat) (g_world g_images g_hearing g_bowls g_guesses : Value) (post : Int32 → (Nat → Int32) → Int32 → Prop) (A : Nat → Prop) : Array Value → State → Outcome → State → Prop := va_Qi (S := (Nat → Int32) × Int32) (fun r u => post r u.1 u.2) (fun u t => va_P D vwCl (cw_X8_say cC h h_pad h_pad_signs g_world g_images g_hearing g_bowls g_guesses u.1 u.2) t.heap) A
abbrev v_X8_say : List Cond := .code yX8_say cX8_say 2 (some .int) :: zB
theorem hd_X8_say : yX8_say.cls = RX8 ∧ yX8_say.cls ≠ "java/lang/invoke/MethodHandle" ∧ yX8_say.cls ≠ "java/lang/invoke/VarHandle" ∧ (parseMethodDescriptor yX8_say.desc).map (fun d => d.parameters.length) = some 1 := by decide +kernel
set_option maxHeartbeats 4000000 in
set_option maxRecDepth 100000 in
theorem c_X8_say (l : Launch) (D : va_G) (cI cC cZ : ClassId) (h h_pad h_pad_signs : Nat) (g_world g_images g_hearing g_bowls g_guesses : Value) (f_pad_signs : Nat → Int32) (f_pad_count : Int32) (p1 : Int32) (sz : Nat) (post : Int32 → (Nat → Int32) → Int32 → Prop) (hw : w_X8_say post f_pad_signs f_pad_count p1) : Met l yX8_say v_X8_say ({ frames := 2, cells := 0, slots := 0, locals := 43 } : Room) (va_Pc [.ref h, .int p1] (zPre D (zT cI cC cZ) sz (cw_X8_say cC h h_pad h_pad_signs g_world g_images g_hearing g_bowls g_guesses f_pad_signs f_pad_count))) (q_X8_say D cC h h_pad h_pad_signs g_world g_images g_hearing g_bowls g_guesses post (va_A (cw_X8_say cC h h_pad h_pad_signs g_world g_images g_hearing g_bowls g_guesses f_pad_signs f_pad_count) sz)) 0 0 (va_A (cw_X8_say cC h h_pad h_pad_signs g_world g_images g_hearing g_bowls g_guesses f_pad_signs f_pad_count) sz) := by
  refine Met.ofW (cc := cX8_say) (maxL := 2) (ret := (some .int)) (by decide) rfl ?_
  intro p e s m args below meth c s₁ B hml hv
  obtain ⟨rfl, hsz, hP, hK, hD0⟩ := hv
  subst hsz
  have hx := B.exec
  have hb := B.bytes
  have hr := B.returns
  have hz : ∀ w ∈ zB, w.before _ s = true := fun w h => atoms_spec (ws := v_X8_say) B.pre w (List.mem_cons_of_mem _ h)
  have hown : s.vm.findClass RX8 = some m.cls := findClass_of_methodNamed B.named
  have hlocks := B.notSynchronized
  have hF : CallFix p m c cX8_say 2 s (([.ref h, .int p1] : List Value).toArray) zB RX8 := ⟨hx, hb, hml, hown, hz⟩
  have hD := hD0.self (sz := s.heap.size)
  generalize hAe : va_A (cw_X8_say cC h h_pad h_pad_signs g_world g_images g_hearing g_bowls g_guesses f_pad_signs f_pad_count) s.heap.size = A at hD ⊢
  have hA : ∀ q : Nat, s.heap.size ≤ q → A q := fun q h => by rw [← hAe]; exact Or.inr h
  have hS : va_S A s.heap s.heap [] := va_S.rf
  have hP : va_P D vwCl (cw_X8_say cC h h_pad h_pad_signs g_world g_images g_hearing g_bowls g_guesses f_pad_signs f_pad_count) s.heap := hP
  have hl := lv_entry ([.ref h, .int p1]) (n := 2) (Nat.le_of_ble_eq_true rfl)
  rw [lg_entry_eq]
  generalize (lg_sl ([.ref h, .int p1]) ++ List.replicate (2 - (lg_sl ([.ref h, .int p1])).length) Slot.unset).toArray = ls at hl ⊢
  have hl : lv_has ls 2 [(0, .ref h), (1, .int p1)] := hl
  unfold w_X8_say at hw
  refine lv_iload_n hx hb dX8_say_0 rfl (lv_at hl 1 rfl) ?_
  refine lv_bipush (v := (33 : Int32)) hx hb dX8_say_1 (by decide) ?_
  refine lv_bipush (v := (126 : Int32)) hx hb dX8_say_3 (by decide) ?_
  refine z_ri (z_runS (As := [.int p1, .int (33 : Int32), .int (126 : Int32)]) (rest := []) hF (c_X8_within l D cI cC cZ p1 (33 : Int32) (126 : Int32) _ _ hw) (va_cwS 3 hz (z_gS z1_212 z1_213 z1_1 z1_214) rfl rfl rfl hd_X8_within ⟨Nat.le_of_ble_eq_true rfl, Nat.le_of_ble_eq_true rfl⟩) hK hP hD [] rfl rfl rfl hl.1 rfl (Nat.le_of_ble_eq_true rfl) dX8_say_5 ⟨Nat.zero_le _, Nat.zero_le _⟩) hP hD hS hA [] rfl (fun _ => rfl) (fun _ => cw_X8_say cC h h_pad h_pad_signs g_world g_images g_hearing g_bowls g_guesses f_pad_signs f_pad_count) (fun _ => rfl) (fun r5 u5 H locs hw hP hD hS => ?_)
  obtain ⟨hn5, hw⟩ := hw
  try dsimp only at hw
  refine lv_if_ne (tgt := 14) hx hb dX8_say_8 (by decide) (fun c8 => ?_) (fun c8 => ?_)
  · have hw := hw.2 c8
    refine lv_aload_n hx hb dX8_say_14 rfl (lv_at hl 0 rfl) ?_
    refine va_get (D := D) (ci := 8) (v := .ref h_pad) (C := RX8) (T := TX8) (N := 6) hx hb hz hX_X8 hown hK.1 hP 0 rfl rfl 2 (by decide) (hz _ z1_185) (fun _ h9 => h9) rfl dX8_say_15 ?_
    refine va_getN (D := D) (ci := 4) (v := .int f_pad_count) (C := RX4) (T := TX4) (N := 2) hx hb hz hX_X4 hown hK.1 hP 1 rfl rfl 1 (by decide) (va_Nw.use rfl (hK.2.1 _ (List.mem_of_getElem? (i := 11) rfl))) (fun _ h9 => h9) rfl dX8_say_18 ?_
    refine lv_bipush (v := (60 : Int32)) hx hb dX8_say_21 (by decide) ?_
    refine lv_icmp_lt (tgt := 29) hx hb dX8_say_23 (by decide) (fun c23 => ?_) (fun c23 => ?_)
    · have hw := hw.1 c23
      refine lv_aload_n hx hb dX8_say_29 rfl (lv_at hl 0 rfl) ?_
      refine va_get (D := D) (ci := 8) (v := .ref h_pad) (C := RX8) (T := TX8) (N := 6) hx hb hz hX_X8 hown hK.1 hP 0 rfl rfl 2 (by decide) (hz _ z1_185) (fun _ h9 => h9) rfl dX8_say_30 ?_
      refine lv_iload_n hx hb dX8_say_33 rfl (lv_at hl 1 rfl) ?_
      refine lv_i2c (v := (p1.toUInt32 % 65536).toInt32) hx hb dX8_say_34 rfl ?_
      refine z_rv (z_runV (As := [.int ((p1.toUInt32 % 65536).toInt32)]) (rest := []) hF (c_X4_write l D cI cC cZ h_pad h_pad_signs f_pad_signs f_pad_count ((p1.toUInt32 % 65536).toInt32) _ _ hw) (cwV 1 hz (z_gV z2_15 z2_16 z2_17 z1_6 z2_18) rfl rfl rfl hd_X4_write ⟨Nat.le_of_ble_eq_true rfl, Nat.le_of_ble_eq_true rfl⟩) hK hP hD [1, 2] rfl rfl 1 4 rfl rfl rfl rfl hl.1 rfl (Nat.le_of_ble_eq_true rfl) dX8_say_35 ⟨Nat.zero_le _, Nat.zero_le _⟩) hP hD hS hA [1, 2] rfl (fun _ => rfl) (fun u => cw_X8_say cC h h_pad h_pad_signs g_world g_images g_hearing g_bowls g_guesses u.1 u.2) (fun _ => rfl) (fun u35 H locs hw hP hD hS => ?_)
      obtain ⟨u35_0, u35_1⟩ := u35
      try dsimp only at hw
      have hP : va_P D vwCl (cw_X8_say cC h h_pad h_pad_signs g_world g_images g_hearing g_bowls g_guesses u35_0 u35_1) H := hP
      have hD : va_D A (cw_X8_say cC h h_pad h_pad_signs g_world g_images g_hearing g_bowls g_guesses u35_0 u35_1) := hD
      refine lv_aload_n hx hb dX8_say_38 rfl (lv_at hl 0 rfl) ?_
      refine va_get (D := D) (ci := 8) (v := .ref h_pad) (C := RX8) (T := TX8) (N := 6) hx hb hz hX_X8 hown hK.1 hP 0 rfl rfl 2 (by decide) (hz _ z1_185) (fun _ h9 => h9) rfl dX8_say_39 ?_
      refine va_getN (D := D) (ci := 4) (v := .int u35_1) (C := RX4) (T := TX4) (N := 2) hx hb hz hX_X4 hown hK.1 hP 1 rfl rfl 1 (by decide) (va_Nw.use rfl (hK.2.1 _ (List.mem_of_getElem? (i := 11) rfl))) (fun _ h9 => h9) rfl dX8_say_42 ?_
      exact z_iret hx hb hr hlocks (u35_0, u35_1) hw hP hS dX8_say_45
    have hw := hw.2 c23
    refine lv_bipush (v := (-4 : Int32)) hx hb dX8_say_26 (by decide) ?_
    exact z_iret hx hb hr hlocks (f_pad_signs, f_pad_count) hw hP hS dX8_say_28
  have hw := hw.1 c8
  refine lv_bipush (v := (-2 : Int32)) hx hb dX8_say_11 (by decide) ?_
  exact z_iret hx hb hr hlocks (f_pad_signs, f_pad_count) hw hP hS dX8_say_13
abbrev cw_X8_wipe (h h_pad : Nat) (g_world g_images g_hearing g_bowls g_guesses g_pad_signs : Value) (f_pad_count : Int32) : va_W := [(h, .inr (8, [g_world, g_images, .ref h_pad, g_hearing, g_bowls, g_guesses])), (h_pad, .inr (4, [g_pad_signs, .int f_pad_count]))]
abbrev q_X8_wipe (D : va_G) (h h_pad : Nat) (g_world g_images g_hearing g_bowls g_guesses g_pad_signs : Value) (post : Int32 → Int32 → Prop) (A : Nat → Prop) : Array Value → State → Outcome → State → Prop := va_Qi (S := Int32) (fun r u => post r u) (fun u t => va_P D vwCl (cw_X8_wipe h h_pad g_world g_images g_hearing g_bowls g_guesses g_pad_signs u) t.heap) A
abbrev v_X8_wipe : List Cond := .code yX8_wipe cX8_wipe 2 (some .int) :: zB
theorem hd_X8_wipe : yX8_wipe.cls = RX8 ∧ yX8_wipe.cls ≠ "java/lang/invoke/MethodHandle" ∧ yX8_wipe.cls ≠ "java/lang/invoke/VarHandle" ∧ (parseMethodDescriptor yX8_wipe.desc).map (fun d => d.parameters.length) = some 0 := by decide +kernel
set_option maxHeartbeats 4000000 in
set_option maxRecDepth 100000 in
theorem c_X8_wipe (l : Launch) (D : va_G) (cI cC cZ : ClassId) (h h_pad : Nat) (g_world g_images g_hearing g_bowls g_guesses g_pad_signs : Value) (f_pad_count : Int32) (sz : Nat) (post : Int32 → Int32 → Prop) (hw : w_X8_wipe post f_pad_count) : Met l yX8_wipe v_X8_wipe ({ frames := 0, cells := 0, slots := 0, locals := 0 } : Room) (va_Pc [.ref h] (zPre D (zT cI cC cZ) sz (cw_X8_wipe h h_pad g_world g_images g_hearing g_bowls g_guesses g_pad_signs f_pad_count))) (q_X8_wipe D h h_pad g_world g_images g_hearing g_bowls g_guesses g_pad_signs post (va_A (cw_X8_wipe h h_pad g_world g_images g_hearing g_bowls g_guesses g_pad_signs f_pad_count) sz)) 0 0 (va_A (cw_X8_wipe h h_pad g_world g_images g_hearing g_bowls g_guesses g_pad_signs f_pad_count) sz) := by
  refine Met.ofW (cc := cX8_wipe) (maxL := 2) (ret := (some .int)) (by decide) rfl ?_
  intro p e s m args below meth c s₁ B hml hv
  obtain ⟨rfl, hsz, hP, hK, hD0⟩ := hv
  subst hsz
  have hx := B.exec
  have hb := B.bytes
  have hr := B.returns
  have hz : ∀ w ∈ zB, w.before _ s = true := fun w h => atoms_spec (ws := v_X8_wipe) B.pre w (List.mem_cons_of_mem _ h)
  have hown : s.vm.findClass RX8 = some m.cls := findClass_of_methodNamed B.named
  have hlocks := B.notSynchronized
  have hF : CallFix p m c cX8_wipe 2 s (([.ref h] : List Value).toArray) zB RX8 := ⟨hx, hb, hml, hown, hz⟩
  have hD := hD0.self (sz := s.heap.size)
  generalize hAe : va_A (cw_X8_wipe h h_pad g_world g_images g_hearing g_bowls g_guesses g_pad_signs f_pad_count) s.heap.size = A at hD ⊢
  have hA : ∀ q : Nat, s.heap.size ≤ q → A q := fun q h => by rw [← hAe]; exact Or.inr h
  have hS : va_S A s.heap s.heap [] := va_S.rf
  have hP : va_P D vwCl (cw_X8_wipe h h_pad g_world g_images g_hearing g_bowls g_guesses g_pad_signs f_pad_count) s.heap := hP
  have hl := lv_entry ([.ref h]) (n := 2) (Nat.le_of_ble_eq_true rfl)
  rw [lg_entry_eq]
  generalize (lg_sl ([.ref h]) ++ List.replicate (2 - (lg_sl ([.ref h])).length) Slot.unset).toArray = ls at hl ⊢
  have hl : lv_has ls 2 [(0, .ref h)] := hl
  unfold w_X8_wipe at hw
  refine lv_aload_n hx hb dX8_wipe_0 rfl (lv_at hl 0 rfl) ?_
  refine va_get (D := D) (ci := 8) (v := .ref h_pad) (C := RX8) (T := TX8) (N := 6) hx hb hz hX_X8 hown hK.1 hP 0 rfl rfl 2 (by decide) (hz _ z1_185) (fun _ h9 => h9) rfl dX8_wipe_1 ?_
  refine va_getN (D := D) (ci := 4) (v := .int f_pad_count) (C := RX4) (T := TX4) (N := 2) hx hb hz hX_X4 hown hK.1 hP 1 rfl rfl 1 (by decide) (va_Nw.use rfl (hK.2.1 _ (List.mem_of_getElem? (i := 11) rfl))) (fun _ h9 => h9) rfl dX8_wipe_4 ?_
  refine lv_istore_n (lv' := [(1, .int f_pad_count), (0, .ref h)]) hx hb dX8_wipe_7 rfl hl (by decide) rfl (fun ls hl => ?_)
  refine lv_aload_n hx hb dX8_wipe_8 rfl (lv_at hl 1 rfl) ?_
  refine va_get (D := D) (ci := 8) (v := .ref h_pad) (C := RX8) (T := TX8) (N := 6) hx hb hz hX_X8 hown hK.1 hP 0 rfl rfl 2 (by decide) (hz _ z1_185) (fun _ h9 => h9) rfl dX8_wipe_9 ?_
  refine lv_iconst (v := (0 : Int32)) hx hb dX8_wipe_12 (by decide) ?_
  refine va_putN (D := D) (ci := 4) (v := .int (0 : Int32)) (ty := .int) (C := RX4) (T := TX4) (N := 2) hx hb hz hX_X4 tyX4 tyX4_ok nmX4 hown hK.1 hP hD hS 1 rfl rfl 1 (by decide) (va_Nw.use rfl (hK.2.1 _ (List.mem_of_getElem? (i := 11) rfl))) (fun _ h9 => h9) rfl (tyX4_ok 1 (by decide)) rfl rfl (Nat.le_of_ble_eq_true rfl) dX8_wipe_13 (fun H locs hP hD hS => ?_)
  have hP : va_P D vwCl (cw_X8_wipe h h_pad g_world g_images g_hearing g_bowls g_guesses g_pad_signs (0 : Int32)) H := hP
  have hD : va_D A (cw_X8_wipe h h_pad g_world g_images g_hearing g_bowls g_guesses g_pad_signs (0 : Int32)) := hD
  refine lv_iload_n hx hb dX8_wipe_16 rfl (lv_at hl 0 rfl) ?_
  exact z_iret hx hb hr hlocks (0 : Int32) hw hP hS dX8_wipe_17
abbrev cw_X4_signAt (cC : ClassId) (h h_signs : Nat) (g_count : Value) (f_signs : Nat → Int32) : va_W := [(h, .inr (4, [.ref h_signs, g_count])), (h_signs, .inl (cC, 60, .inl f_signs))]
abbrev q_X4_signAt (D : va_G) (cC : ClassId) (h h_signs : Nat) (g_count : Value) (post : Int32 → Prop) (f_signs : Nat → Int32) (A : Nat → Prop) : Array Value → State → Outcome → State → Prop := va_Qi (S := Unit) (fun r _ => narrow .char (.int r) = .int r ∧ post r ) (fun _ t => va_P D vwCl (cw_X4_signAt cC h h_signs g_count f_signs) t.heap) A
abbrev v_X4_signAt : List Cond := .code yX4_signAt cX4_signAt 2 (some .char) :: zB
theorem hd_X4_signAt : yX4_signAt.cls = RX4 ∧ yX4_signAt.cls ≠ "java/lang/invoke/MethodHandle" ∧ yX4_signAt.cls ≠ "java/lang/invoke/VarHandle" ∧ (parseMethodDescriptor yX4_signAt.desc).map (fun d => d.parameters.length) = some 1 := by decide +kernel
set_option maxHeartbeats 4000000 in
set_option maxRecDepth 100000 in
theorem c_X4_signAt (l : Launch) (D : va_G) (cI cC cZ : ClassId) (h h_signs : Nat) (g_count : Value) (f_signs : Nat → Int32) (p1 : Int32) (sz : Nat) (post : Int32 → Prop) (hw : w_X4_signAt post f_signs p1) : Met l yX4_signAt v_X4_signAt ({ frames := 1, cells := 0, slots := 0, locals := 22 } : Room) (va_Pc [.ref h, .int p1] (zPre D (zT cI cC cZ) sz (cw_X4_signAt cC h h_signs g_count f_signs))) (q_X4_signAt D cC h h_signs g_count post f_signs (va_A (cw_X4_signAt cC h h_signs g_count f_signs) sz)) 0 0 (va_A (cw_X4_signAt cC h h_signs g_count f_signs) sz) := by
  refine Met.ofW (cc := cX4_signAt) (maxL := 2) (ret := (some .char)) (by decide) rfl ?_
  intro p e s m args below meth c s₁ B hml hv
  obtain ⟨rfl, hsz, hP, hK, hD0⟩ := hv
  subst hsz
  have hx := B.exec
  have hb := B.bytes
  have hr := B.returns
  have hz : ∀ w ∈ zB, w.before _ s = true := fun w h => atoms_spec (ws := v_X4_signAt) B.pre w (List.mem_cons_of_mem _ h)
  have hown : s.vm.findClass RX4 = some m.cls := findClass_of_methodNamed B.named
  have hlocks := B.notSynchronized
  have hF : CallFix p m c cX4_signAt 2 s (([.ref h, .int p1] : List Value).toArray) zB RX4 := ⟨hx, hb, hml, hown, hz⟩
  have hD := hD0.self (sz := s.heap.size)
  generalize hAe : va_A (cw_X4_signAt cC h h_signs g_count f_signs) s.heap.size = A at hD ⊢
  have hA : ∀ q : Nat, s.heap.size ≤ q → A q := fun q h => by rw [← hAe]; exact Or.inr h
  have hS : va_S A s.heap s.heap [] := va_S.rf
  have hP : va_P D vwCl (cw_X4_signAt cC h h_signs g_count f_signs) s.heap := hP
  have hl := lv_entry ([.ref h, .int p1]) (n := 2) (Nat.le_of_ble_eq_true rfl)
  rw [lg_entry_eq]
  generalize (lg_sl ([.ref h, .int p1]) ++ List.replicate (2 - (lg_sl ([.ref h, .int p1])).length) Slot.unset).toArray = ls at hl ⊢
  have hl : lv_has ls 2 [(0, .ref h), (1, .int p1)] := hl
  unfold w_X4_signAt at hw
  refine lv_iload_n hx hb dX4_signAt_0 rfl (lv_at hl 1 rfl) ?_
  refine lv_iconst (v := (0 : Int32)) hx hb dX4_signAt_1 (by decide) ?_
  refine lv_bipush (v := (59 : Int32)) hx hb dX4_signAt_2 (by decide) ?_
  refine z_ri (z_runSN (As := [.int p1, .int (0 : Int32), .int (59 : Int32)]) (rest := []) hF (c_X8_within l D cI cC cZ p1 (0 : Int32) (59 : Int32) _ _ hw) ⟨va_cnB 3 hz (z_gN z1_214) rfl rfl rfl (hK.2.1 _ (List.mem_of_getElem? (i := 20) rfl)) (hz _ z1_1) hd_X8_within ⟨Nat.le_of_ble_eq_true rfl, Nat.le_of_ble_eq_true rfl⟩, (hz _ z1_213), trivial⟩ hK hP hD [] rfl rfl rfl hl.1 rfl (Nat.le_of_ble_eq_true rfl) dX4_signAt_4 ⟨Nat.zero_le _, Nat.zero_le _⟩) hP hD hS hA [] rfl (fun _ => rfl) (fun _ => cw_X4_signAt cC h h_signs g_count f_signs) (fun _ => rfl) (fun r4 u4 H locs hw hP hD hS => ?_)
  obtain ⟨hn4, hw⟩ := hw
  try dsimp only at hw
  refine lv_if_eq (tgt := 19) hx hb dX4_signAt_7 (by decide) (fun c7 => ?_) (fun c7 => ?_)
  · have hw := hw.1 c7
    refine lv_iconst (v := (0 : Int32)) hx hb dX4_signAt_19 (by decide) ?_
    exact z_zret hx hb hr hlocks rfl () hw hP hS dX4_signAt_20
  have hw := hw.2 c7
  refine lv_aload_n hx hb dX4_signAt_10 rfl (lv_at hl 0 rfl) ?_
  refine va_get (D := D) (ci := 4) (v := .ref h_signs) (C := RX4) (T := TX4) (N := 2) hx hb hz hX_X4 hown hK.1 hP 0 rfl rfl 0 (by decide) (hz _ z1_117) (fun _ h9 => h9) rfl dX4_signAt_11 ?_
  refine lv_iload_n hx hb dX4_signAt_14 rfl (lv_at hl 1 rfl) ?_
  obtain ⟨hi15, hw⟩ := hw
  refine va_cald hx hb hK.1 hP 1 1 rfl rfl hi15 dX4_signAt_15 ?_
  refine lv_goto (tgt := 20) hx hb dX4_signAt_16 (by decide) ?_
  obtain ⟨hn, hw⟩ := hw
  exact z_zret hx hb hr hlocks hn () hw hP hS dX4_signAt_20
abbrev cw_X4_isHour (cC : ClassId) (h h_signs : Nat) (g_count : Value) (f_signs : Nat → Int32) : va_W := [(h, .inr (4, [.ref h_signs, g_count])), (h_signs, .inl (cC, 60, .inl f_signs))]
abbrev q_X4_isHour (D : va_G) (cC : ClassId) (h h_signs : Nat) (g_count : Value) (post : Int32 → Prop) (f_signs : Nat → Int32) (A : Nat → Prop) : Array Value → State → Outcome → State → Prop := va_Qi (S := Unit) (fun r _ => narrow .boolean (.int r) = .int r ∧ post r ) (fun _ t => va_P D vwCl (cw_X4_isHour cC h h_signs g_count f_signs) t.heap) A
abbrev v_X4_isHour : List Cond := .code yX4_isHour cX4_isHour 2 (some .boolean) :: zB
theorem hd_X4_isHour : yX4_isHour.cls = RX4 ∧ yX4_isHour.cls ≠ "java/lang/invoke/MethodHandle" ∧ yX4_isHour.cls ≠ "java/lang/invoke/VarHandle" ∧ (parseMethodDescriptor yX4_isHour.desc).map (fun d => d.parameters.length) = some 1 := by decide +kernel
set_option maxHeartbeats 4000000 in
set_option maxRecDepth 100000 in
theorem c_X4_isHour (l : Launch) (D : va_G) (cI cC cZ : ClassId) (h h_signs : Nat) (g_count : Value) (f_signs : Nat → Int32) (p1 : Int32) (sz : Nat) (post : Int32 → Prop) (hw : w_X4_isHour post f_signs p1) : Met l yX4_isHour v_X4_isHour ({ frames := 2, cells := 0, slots := 0, locals := 43 } : Room) (va_Pc [.ref h, .int p1] (zPre D (zT cI cC cZ) sz (cw_X4_isHour cC h h_signs g_count f_signs))) (q_X4_isHour D cC h h_signs g_count post f_signs (va_A (cw_X4_isHour cC h h_signs g_count f_signs) sz)) 0 0 (va_A (cw_X4_isHour cC h h_signs g_count f_signs) sz) := by
  refine Met.ofW (cc := cX4_isHour) (maxL := 2) (ret := (some .boolean)) (by decide) rfl ?_
  intro p e s m args below meth c s₁ B hml hv
  obtain ⟨rfl, hsz, hP, hK, hD0⟩ := hv
  subst hsz
  have hx := B.exec
  have hb := B.bytes
  have hr := B.returns
  have hz : ∀ w ∈ zB, w.before _ s = true := fun w h => atoms_spec (ws := v_X4_isHour) B.pre w (List.mem_cons_of_mem _ h)
  have hown : s.vm.findClass RX4 = some m.cls := findClass_of_methodNamed B.named
  have hlocks := B.notSynchronized
  have hF : CallFix p m c cX4_isHour 2 s (([.ref h, .int p1] : List Value).toArray) zB RX4 := ⟨hx, hb, hml, hown, hz⟩
  have hD := hD0.self (sz := s.heap.size)
  generalize hAe : va_A (cw_X4_isHour cC h h_signs g_count f_signs) s.heap.size = A at hD ⊢
  have hA : ∀ q : Nat, s.heap.size ≤ q → A q := fun q h => by rw [← hAe]; exact Or.inr h
  have hS : va_S A s.heap s.heap [] := va_S.rf
  have hP : va_P D vwCl (cw_X4_isHour cC h h_signs g_count f_signs) s.heap := hP
  have hl := lv_entry ([.ref h, .int p1]) (n := 2) (Nat.le_of_ble_eq_true rfl)
  rw [lg_entry_eq]
  generalize (lg_sl ([.ref h, .int p1]) ++ List.replicate (2 - (lg_sl ([.ref h, .int p1])).length) Slot.unset).toArray = ls at hl ⊢
  have hl : lv_has ls 2 [(0, .ref h), (1, .int p1)] := hl
  unfold w_X4_isHour at hw
  refine lv_aload_n hx hb dX4_isHour_0 rfl (lv_at hl 0 rfl) ?_
  refine lv_iload_n hx hb dX4_isHour_1 rfl (lv_at hl 1 rfl) ?_
  refine z_ri (z_runV (As := [.int p1]) (rest := []) hF (c_X4_signAt l D cI cC cZ h h_signs g_count f_signs p1 _ _ hw) (cwV 1 hz (z_gV z2_36 z2_38 zp_0 z1_6 z2_39) rfl rfl rfl hd_X4_signAt ⟨Nat.le_of_ble_eq_true rfl, Nat.le_of_ble_eq_true rfl⟩) hK hP hD [0, 1] rfl rfl 0 4 rfl rfl rfl rfl hl.1 rfl (Nat.le_of_ble_eq_true rfl) dX4_isHour_2 ⟨Nat.zero_le _, Nat.zero_le _⟩) hP hD hS hA [0, 1] rfl (fun _ => rfl) (fun _ => cw_X4_isHour cC h h_signs g_count f_signs) (fun _ => rfl) (fun r2 u2 H locs hw hP hD hS => ?_)
  obtain ⟨hn2, hw⟩ := hw
  try dsimp only at hw
  refine lv_bipush (v := (46 : Int32)) hx hb dX4_isHour_5 (by decide) ?_
  refine lv_icmp_ne (tgt := 14) hx hb dX4_isHour_7 (by decide) (fun c7 => ?_) (fun c7 => ?_)
  · have hw := hw.2 c7
    refine lv_iconst (v := (0 : Int32)) hx hb dX4_isHour_14 (by decide) ?_
    exact z_zret hx hb hr hlocks rfl () hw hP hS dX4_isHour_15
  have hw := hw.1 c7
  refine lv_iconst (v := (1 : Int32)) hx hb dX4_isHour_10 (by decide) ?_
  refine lv_goto (tgt := 15) hx hb dX4_isHour_11 (by decide) ?_
  exact z_zret hx hb hr hlocks rfl () hw hP hS dX4_isHour_15
abbrev cw_X4_isMove (cC : ClassId) (h h_signs : Nat) (g_count : Value) (f_signs : Nat → Int32) : va_W := [(h, .inr (4, [.ref h_signs, g_count])), (h_signs, .inl (cC, 60, .inl f_signs))]
abbrev q_X4_isMove (D : va_G) (cC : ClassId) (h h_signs : Nat) (g_count : Value) (post : Int32 → Prop) (f_signs : Nat → Int32) (A : Nat → Prop) : Array Value → State → Outcome → State → Prop := va_Qi (S := Unit) (fun r _ => narrow .boolean (.int r) = .int r ∧ post r ) (fun _ t => va_P D vwCl (cw_X4_isMove cC h h_signs g_count f_signs) t.heap) A
abbrev v_X4_isMove : List Cond := .code yX4_isMove cX4_isMove 2 (some .boolean) :: zB
theorem hd_X4_isMove : yX4_isMove.cls = RX4 ∧ yX4_isMove.cls ≠ "java/lang/invoke/MethodHandle" ∧ yX4_isMove.cls ≠ "java/lang/invoke/VarHandle" ∧ (parseMethodDescriptor yX4_isMove.desc).map (fun d => d.parameters.length) = some 1 := by decide +kernel
set_option maxHeartbeats 4000000 in
set_option maxRecDepth 100000 in
theorem c_X4_isMove (l : Launch) (D : va_G) (cI cC cZ : ClassId) (h h_signs : Nat) (g_count : Value) (f_signs : Nat → Int32) (p1 : Int32) (sz : Nat) (post : Int32 → Prop) (hw : w_X4_isMove post f_signs p1) : Met l yX4_isMove v_X4_isMove ({ frames := 2, cells := 0, slots := 0, locals := 43 } : Room) (va_Pc [.ref h, .int p1] (zPre D (zT cI cC cZ) sz (cw_X4_isMove cC h h_signs g_count f_signs))) (q_X4_isMove D cC h h_signs g_count post f_signs (va_A (cw_X4_isMove cC h h_signs g_count f_signs) sz)) 0 0 (va_A (cw_X4_isMove cC h h_signs g_count f_signs) sz) := by
  refine Met.ofW (cc := cX4_isMove) (maxL := 2) (ret := (some .boolean)) (by decide) rfl ?_
  intro p e s m args below meth c s₁ B hml hv
  obtain ⟨rfl, hsz, hP, hK, hD0⟩ := hv
  subst hsz
  have hx := B.exec
  have hb := B.bytes
  have hr := B.returns
  have hz : ∀ w ∈ zB, w.before _ s = true := fun w h => atoms_spec (ws := v_X4_isMove) B.pre w (List.mem_cons_of_mem _ h)
  have hown : s.vm.findClass RX4 = some m.cls := findClass_of_methodNamed B.named
  have hlocks := B.notSynchronized
  have hF : CallFix p m c cX4_isMove 2 s (([.ref h, .int p1] : List Value).toArray) zB RX4 := ⟨hx, hb, hml, hown, hz⟩
  have hD := hD0.self (sz := s.heap.size)
  generalize hAe : va_A (cw_X4_isMove cC h h_signs g_count f_signs) s.heap.size = A at hD ⊢
  have hA : ∀ q : Nat, s.heap.size ≤ q → A q := fun q h => by rw [← hAe]; exact Or.inr h
  have hS : va_S A s.heap s.heap [] := va_S.rf
  have hP : va_P D vwCl (cw_X4_isMove cC h h_signs g_count f_signs) s.heap := hP
  have hl := lv_entry ([.ref h, .int p1]) (n := 2) (Nat.le_of_ble_eq_true rfl)
  rw [lg_entry_eq]
  generalize (lg_sl ([.ref h, .int p1]) ++ List.replicate (2 - (lg_sl ([.ref h, .int p1])).length) Slot.unset).toArray = ls at hl ⊢
  have hl : lv_has ls 2 [(0, .ref h), (1, .int p1)] := hl
  have J20 : ∀ (H : Heap) (locs : List Loc) (ls : Array Slot) (hw : w_X4_isMove_B20 post f_signs p1) (hP : va_P D vwCl (cw_X4_isMove cC h h_signs g_count f_signs) H) (hD : va_D A (cw_X4_isMove cC h h_signs g_count f_signs)) (hS : va_S A s.heap H locs) (hl : lv_has ls 2 []), W p l e (headSpec v_X4_isMove ({ frames := 2, cells := 0, slots := 0, locals := 43 } : Room)).room s m (([.ref h, .int p1] : List Value).toArray) below meth c H locs 0 0 (MQ below (q_X4_isMove D cC h h_signs g_count post f_signs A) (([.ref h, .int p1] : List Value).toArray) s 0 0 A) (F0 m 20 ls []) := by
    intro H locs ls hw hP hD hS hl
    unfold w_X4_isMove_B20 at hw
    refine lv_iconst (v := (1 : Int32)) hx hb dX4_isMove_20 (by decide) ?_
    refine lv_goto (tgt := 25) hx hb dX4_isMove_21 (by decide) ?_
    exact z_zret hx hb hr hlocks rfl () hw hP hS dX4_isMove_25
  unfold w_X4_isMove at hw
  refine lv_aload_n hx hb dX4_isMove_0 rfl (lv_at hl 0 rfl) ?_
  refine lv_iload_n hx hb dX4_isMove_1 rfl (lv_at hl 1 rfl) ?_
  refine z_ri (z_runV (As := [.int p1]) (rest := []) hF (c_X4_signAt l D cI cC cZ h h_signs g_count f_signs p1 _ _ hw) (cwV 1 hz (z_gV z2_36 z2_38 zp_0 z1_6 z2_39) rfl rfl rfl hd_X4_signAt ⟨Nat.le_of_ble_eq_true rfl, Nat.le_of_ble_eq_true rfl⟩) hK hP hD [0, 1] rfl rfl 0 4 rfl rfl rfl rfl hl.1 rfl (Nat.le_of_ble_eq_true rfl) dX4_isMove_2 ⟨Nat.zero_le _, Nat.zero_le _⟩) hP hD hS hA [0, 1] rfl (fun _ => rfl) (fun _ => cw_X4_isMove cC h h_signs g_count f_signs) (fun _ => rfl) (fun r2 u2 H locs hw hP hD hS => ?_)
  obtain ⟨hn2, hw⟩ := hw
  try dsimp only at hw
  refine lv_bipush (v := (62 : Int32)) hx hb dX4_isMove_5 (by decide) ?_
  refine lv_icmp_eq (tgt := 20) hx hb dX4_isMove_7 (by decide) (fun c7 => ?_) (fun c7 => ?_)
  · have hw := hw.1 c7
    exact J20 _ _ _ hw hP hD hS (lv_sub hl [] rfl)
  have hw := hw.2 c7
  refine lv_aload_n hx hb dX4_isMove_10 rfl (lv_at hl 0 rfl) ?_
  refine lv_iload_n hx hb dX4_isMove_11 rfl (lv_at hl 1 rfl) ?_
  refine z_ri (z_runV (As := [.int p1]) (rest := []) hF (c_X4_signAt l D cI cC cZ h h_signs g_count f_signs p1 _ _ hw) (cwV 1 hz (z_gV z2_36 z2_38 zp_0 z1_6 z2_39) rfl rfl rfl hd_X4_signAt ⟨Nat.le_of_ble_eq_true rfl, Nat.le_of_ble_eq_true rfl⟩) hK hP hD [0, 1] rfl rfl 0 4 rfl rfl rfl rfl hl.1 rfl (Nat.le_of_ble_eq_true rfl) dX4_isMove_12 ⟨Nat.zero_le _, Nat.zero_le _⟩) hP hD hS hA [0, 1] rfl (fun _ => rfl) (fun _ => cw_X4_isMove cC h h_signs g_count f_signs) (fun _ => rfl) (fun r12 u12 H locs hw hP hD hS => ?_)
  obtain ⟨hn12, hw⟩ := hw
  try dsimp only at hw
  refine lv_bipush (v := (60 : Int32)) hx hb dX4_isMove_15 (by decide) ?_
  refine lv_icmp_ne (tgt := 24) hx hb dX4_isMove_17 (by decide) (fun c17 => ?_) (fun c17 => ?_)
  · have hw := hw.2 c17
    refine lv_iconst (v := (0 : Int32)) hx hb dX4_isMove_24 (by decide) ?_
    exact z_zret hx hb hr hlocks rfl () hw hP hS dX4_isMove_25
  have hw := hw.1 c17
  exact J20 _ _ _ hw hP hD hS (lv_sub hl [] rfl)
abbrev cw_X4_isLetter (cC : ClassId) (h h_signs : Nat) (g_count : Value) (f_signs : Nat → Int32) : va_W := [(h, .inr (4, [.ref h_signs, g_count])), (h_signs, .inl (cC, 60, .inl f_signs))]
abbrev q_X4_isLetter (D : va_G) (cC : ClassId) (h h_signs : Nat) (g_count : Value) (post : Int32 → Prop) (f_signs : Nat → Int32) (A : Nat → Prop) : Array Value → State → Outcome → State → Prop := va_Qi (S := Unit) (fun r _ => narrow .boolean (.int r) = .int r ∧ post r ) (fun _ t => va_P D vwCl (cw_X4_isLetter cC h h_signs g_count f_signs) t.heap) A
abbrev v_X4_isLetter : List Cond := .code yX4_isLetter cX4_isLetter 2 (some .boolean) :: zB
theorem hd_X4_isLetter : yX4_isLetter.cls = RX4 ∧ yX4_isLetter.cls ≠ "java/lang/invoke/MethodHandle" ∧ yX4_isLetter.cls ≠ "java/lang/invoke/VarHandle" ∧ (parseMethodDescriptor yX4_isLetter.desc).map (fun d => d.parameters.length) = some 1 := by decide +kernel
set_option maxHeartbeats 4000000 in
set_option maxRecDepth 100000 in
theorem c_X4_isLetter (l : Launch) (D : va_G) (cI cC cZ : ClassId) (h h_signs : Nat) (g_count : Value) (f_signs : Nat → Int32) (p1 : Int32) (sz : Nat) (post : Int32 → Prop) (hw : w_X4_isLetter post f_signs p1) : Met l yX4_isLetter v_X4_isLetter ({ frames := 2, cells := 0, slots := 0, locals := 43 } : Room) (va_Pc [.ref h, .int p1] (zPre D (zT cI cC cZ) sz (cw_X4_isLetter cC h h_signs g_count f_signs))) (q_X4_isLetter D cC h h_signs g_count post f_signs (va_A (cw_X4_isLetter cC h h_signs g_count f_signs) sz)) 0 0 (va_A (cw_X4_isLetter cC h h_signs g_count f_signs) sz) := by
  refine Met.ofW (cc := cX4_isLetter) (maxL := 2) (ret := (some .boolean)) (by decide) rfl ?_
  intro p e s m args below meth c s₁ B hml hv
  obtain ⟨rfl, hsz, hP, hK, hD0⟩ := hv
  subst hsz
  have hx := B.exec
  have hb := B.bytes
  have hr := B.returns
  have hz : ∀ w ∈ zB, w.before _ s = true := fun w h => atoms_spec (ws := v_X4_isLetter) B.pre w (List.mem_cons_of_mem _ h)
  have hown : s.vm.findClass RX4 = some m.cls := findClass_of_methodNamed B.named
  have hlocks := B.notSynchronized
  have hF : CallFix p m c cX4_isLetter 2 s (([.ref h, .int p1] : List Value).toArray) zB RX4 := ⟨hx, hb, hml, hown, hz⟩
  have hD := hD0.self (sz := s.heap.size)
  generalize hAe : va_A (cw_X4_isLetter cC h h_signs g_count f_signs) s.heap.size = A at hD ⊢
  have hA : ∀ q : Nat, s.heap.size ≤ q → A q := fun q h => by rw [← hAe]; exact Or.inr h
  have hS : va_S A s.heap s.heap [] := va_S.rf
  have hP : va_P D vwCl (cw_X4_isLetter cC h h_signs g_count f_signs) s.heap := hP
  have hl := lv_entry ([.ref h, .int p1]) (n := 2) (Nat.le_of_ble_eq_true rfl)
  rw [lg_entry_eq]
  generalize (lg_sl ([.ref h, .int p1]) ++ List.replicate (2 - (lg_sl ([.ref h, .int p1])).length) Slot.unset).toArray = ls at hl ⊢
  have hl : lv_has ls 2 [(0, .ref h), (1, .int p1)] := hl
  unfold w_X4_isLetter at hw
  refine lv_aload_n hx hb dX4_isLetter_0 rfl (lv_at hl 0 rfl) ?_
  refine lv_iload_n hx hb dX4_isLetter_1 rfl (lv_at hl 1 rfl) ?_
  refine z_ri (z_runV (As := [.int p1]) (rest := []) hF (c_X4_signAt l D cI cC cZ h h_signs g_count f_signs p1 _ _ hw) (cwV 1 hz (z_gV z2_36 z2_38 zp_0 z1_6 z2_39) rfl rfl rfl hd_X4_signAt ⟨Nat.le_of_ble_eq_true rfl, Nat.le_of_ble_eq_true rfl⟩) hK hP hD [0, 1] rfl rfl 0 4 rfl rfl rfl rfl hl.1 rfl (Nat.le_of_ble_eq_true rfl) dX4_isLetter_2 ⟨Nat.zero_le _, Nat.zero_le _⟩) hP hD hS hA [0, 1] rfl (fun _ => rfl) (fun _ => cw_X4_isLetter cC h h_signs g_count f_signs) (fun _ => rfl) (fun r2 u2 H locs hw hP hD hS => ?_)
  obtain ⟨hn2, hw⟩ := hw
  try dsimp only at hw
  refine lv_bipush (v := (65 : Int32)) hx hb dX4_isLetter_5 (by decide) ?_
  refine lv_isub hx hb dX4_isLetter_7 ?_
  refine z_ri (z_runSN (As := [.int (r2 - (65 : Int32))]) (rest := []) hF (c_X8_isWitness l D cI cC cZ (r2 - (65 : Int32)) _ _ hw) ⟨va_cnB 1 hz (z_gN z1_208) rfl rfl rfl (hK.2.1 _ (List.mem_of_getElem? (i := 21) rfl)) (hz _ z1_1) hd_X8_isWitness ⟨Nat.le_of_ble_eq_true rfl, Nat.le_of_ble_eq_true rfl⟩, (hz _ z1_207), trivial⟩ hK hP hD [] rfl rfl rfl hl.1 rfl (Nat.le_of_ble_eq_true rfl) dX4_isLetter_8 ⟨Nat.zero_le _, Nat.zero_le _⟩) hP hD hS hA [] rfl (fun _ => rfl) (fun _ => cw_X4_isLetter cC h h_signs g_count f_signs) (fun _ => rfl) (fun r8 u8 H locs hw hP hD hS => ?_)
  obtain ⟨hn8, hw⟩ := hw
  try dsimp only at hw
  exact z_zret hx hb hr hlocks hn8 () hw hP hS dX4_isLetter_11
abbrev cw_X4_canFollow (cC : ClassId) (h h_signs : Nat) (g_count : Value) (f_signs : Nat → Int32) : va_W := [(h, .inr (4, [.ref h_signs, g_count])), (h_signs, .inl (cC, 60, .inl f_signs))]
abbrev q_X4_canFollow (D : va_G) (cC : ClassId) (h h_signs : Nat) (g_count : Value) (post : Int32 → Prop) (f_signs : Nat → Int32) (A : Nat → Prop) : Array Value → State → Outcome → State → Prop := va_Qi (S := Unit) (fun r _ => narrow .boolean (.int r) = .int r ∧ post r ) (fun _ t => va_P D vwCl (cw_X4_canFollow cC h h_signs g_count f_signs) t.heap) A
abbrev v_X4_canFollow : List Cond := .code yX4_canFollow cX4_canFollow 3 (some .boolean) :: zB
theorem hd_X4_canFollow : yX4_canFollow.cls = RX4 ∧ yX4_canFollow.cls ≠ "java/lang/invoke/MethodHandle" ∧ yX4_canFollow.cls ≠ "java/lang/invoke/VarHandle" ∧ (parseMethodDescriptor yX4_canFollow.desc).map (fun d => d.parameters.length) = some 1 := by decide +kernel
set_option maxHeartbeats 4000000 in
set_option maxRecDepth 100000 in
theorem c_X4_canFollow (l : Launch) (D : va_G) (cI cC cZ : ClassId) (h h_signs : Nat) (g_count : Value) (f_signs : Nat → Int32) (p1 : Int32) (sz : Nat) (post : Int32 → Prop) (hw : w_X4_canFollow post f_signs p1) : Met l yX4_canFollow v_X4_canFollow ({ frames := 3, cells := 0, slots := 0, locals := 64 } : Room) (va_Pc [.ref h, .int p1] (zPre D (zT cI cC cZ) sz (cw_X4_canFollow cC h h_signs g_count f_signs))) (q_X4_canFollow D cC h h_signs g_count post f_signs (va_A (cw_X4_canFollow cC h h_signs g_count f_signs) sz)) 0 0 (va_A (cw_X4_canFollow cC h h_signs g_count f_signs) sz) := by
  refine Met.ofW (cc := cX4_canFollow) (maxL := 3) (ret := (some .boolean)) (by decide) rfl ?_
  intro p e s m args below meth c s₁ B hml hv
  obtain ⟨rfl, hsz, hP, hK, hD0⟩ := hv
  subst hsz
  have hx := B.exec
  have hb := B.bytes
  have hr := B.returns
  have hz : ∀ w ∈ zB, w.before _ s = true := fun w h => atoms_spec (ws := v_X4_canFollow) B.pre w (List.mem_cons_of_mem _ h)
  have hown : s.vm.findClass RX4 = some m.cls := findClass_of_methodNamed B.named
  have hlocks := B.notSynchronized
  have hF : CallFix p m c cX4_canFollow 3 s (([.ref h, .int p1] : List Value).toArray) zB RX4 := ⟨hx, hb, hml, hown, hz⟩
  have hD := hD0.self (sz := s.heap.size)
  generalize hAe : va_A (cw_X4_canFollow cC h h_signs g_count f_signs) s.heap.size = A at hD ⊢
  have hA : ∀ q : Nat, s.heap.size ≤ q → A q := fun q h => by rw [← hAe]; exact Or.inr h
  have hS : va_S A s.heap s.heap [] := va_S.rf
  have hP : va_P D vwCl (cw_X4_canFollow cC h h_signs g_count f_signs) s.heap := hP
  have hl := lv_entry ([.ref h, .int p1]) (n := 3) (Nat.le_of_ble_eq_true rfl)
  rw [lg_entry_eq]
  generalize (lg_sl ([.ref h, .int p1]) ++ List.replicate (3 - (lg_sl ([.ref h, .int p1])).length) Slot.unset).toArray = ls at hl ⊢
  have hl : lv_has ls 3 [(0, .ref h), (1, .int p1)] := hl
  have J58 : ∀ (H : Heap) (locs : List Loc) (ls : Array Slot) (hw : w_X4_canFollow_B58 post f_signs p1) (hP : va_P D vwCl (cw_X4_canFollow cC h h_signs g_count f_signs) H) (hD : va_D A (cw_X4_canFollow cC h h_signs g_count f_signs)) (hS : va_S A s.heap H locs) (hl : lv_has ls 3 []), W p l e (headSpec v_X4_canFollow ({ frames := 3, cells := 0, slots := 0, locals := 64 } : Room)).room s m (([.ref h, .int p1] : List Value).toArray) below meth c H locs 0 0 (MQ below (q_X4_canFollow D cC h h_signs g_count post f_signs A) (([.ref h, .int p1] : List Value).toArray) s 0 0 A) (F0 m 58 ls []) := by
    intro H locs ls hw hP hD hS hl
    unfold w_X4_canFollow_B58 at hw
    refine lv_iconst (v := (1 : Int32)) hx hb dX4_canFollow_58 (by decide) ?_
    refine lv_goto (tgt := 63) hx hb dX4_canFollow_59 (by decide) ?_
    exact z_zret hx hb hr hlocks rfl () hw hP hS dX4_canFollow_63
  have J32 : ∀ (H : Heap) (locs : List Loc) (ls : Array Slot) (hw : w_X4_canFollow_B32 post f_signs p1) (hP : va_P D vwCl (cw_X4_canFollow cC h h_signs g_count f_signs) H) (hD : va_D A (cw_X4_canFollow cC h h_signs g_count f_signs)) (hS : va_S A s.heap H locs) (hl : lv_has ls 3 []), W p l e (headSpec v_X4_canFollow ({ frames := 3, cells := 0, slots := 0, locals := 64 } : Room)).room s m (([.ref h, .int p1] : List Value).toArray) below meth c H locs 0 0 (MQ below (q_X4_canFollow D cC h h_signs g_count post f_signs A) (([.ref h, .int p1] : List Value).toArray) s 0 0 A) (F0 m 32 ls []) := by
    intro H locs ls hw hP hD hS hl
    unfold w_X4_canFollow_B32 at hw
    refine lv_iconst (v := (0 : Int32)) hx hb dX4_canFollow_32 (by decide) ?_
    exact z_zret hx hb hr hlocks rfl () hw hP hS dX4_canFollow_33
  unfold w_X4_canFollow at hw
  refine lv_aload_n hx hb dX4_canFollow_0 rfl (lv_at hl 0 rfl) ?_
  refine lv_iload_n hx hb dX4_canFollow_1 rfl (lv_at hl 1 rfl) ?_
  refine lv_iconst (v := (1 : Int32)) hx hb dX4_canFollow_2 (by decide) ?_
  refine lv_iadd hx hb dX4_canFollow_3 ?_
  refine z_ri (z_runV (As := [.int (p1 + (1 : Int32))]) (rest := []) hF (c_X4_signAt l D cI cC cZ h h_signs g_count f_signs (p1 + (1 : Int32)) _ _ hw) (cwV 1 hz (z_gV z2_36 z2_38 zp_0 z1_6 z2_39) rfl rfl rfl hd_X4_signAt ⟨Nat.le_of_ble_eq_true rfl, Nat.le_of_ble_eq_true rfl⟩) hK hP hD [0, 1] rfl rfl 0 4 rfl rfl rfl rfl hl.1 rfl (Nat.le_of_ble_eq_true rfl) dX4_canFollow_4 ⟨Nat.zero_le _, Nat.zero_le _⟩) hP hD hS hA [0, 1] rfl (fun _ => rfl) (fun _ => cw_X4_canFollow cC h h_signs g_count f_signs) (fun _ => rfl) (fun r4 u4 H locs hw hP hD hS => ?_)
  obtain ⟨hn4, hw⟩ := hw
  try dsimp only at hw
  refine lv_istore_n (lv' := [(2, .int r4), (0, .ref h), (1, .int p1)]) hx hb dX4_canFollow_7 rfl hl (by decide) rfl (fun ls hl => ?_)
  refine lv_aload_n hx hb dX4_canFollow_8 rfl (lv_at hl 1 rfl) ?_
  refine lv_iload_n hx hb dX4_canFollow_9 rfl (lv_at hl 2 rfl) ?_
  refine z_ri (z_runV (As := [.int p1]) (rest := []) hF (c_X4_isMove l D cI cC cZ h h_signs g_count f_signs p1 _ _ hw) (cwV 1 hz (z_gV z2_40 z2_42 zp_1 z1_6 z2_43) rfl rfl rfl hd_X4_isMove ⟨Nat.le_of_ble_eq_true rfl, Nat.le_of_ble_eq_true rfl⟩) hK hP hD [0, 1] rfl rfl 0 4 rfl rfl rfl rfl hl.1 rfl (Nat.le_of_ble_eq_true rfl) dX4_canFollow_10 ⟨Nat.zero_le _, Nat.zero_le _⟩) hP hD hS hA [0, 1] rfl (fun _ => rfl) (fun _ => cw_X4_canFollow cC h h_signs g_count f_signs) (fun _ => rfl) (fun r10 u10 H locs hw hP hD hS => ?_)
  obtain ⟨hn10, hw⟩ := hw
  try dsimp only at hw
  refine lv_if_eq (tgt := 34) hx hb dX4_canFollow_13 (by decide) (fun c13 => ?_) (fun c13 => ?_)
  · have hw := hw.1 c13
    refine lv_iload_n hx hb dX4_canFollow_34 rfl (lv_at hl 0 rfl) ?_
    refine lv_bipush (v := (63 : Int32)) hx hb dX4_canFollow_35 (by decide) ?_
    refine lv_icmp_eq (tgt := 58) hx hb dX4_canFollow_37 (by decide) (fun c37 => ?_) (fun c37 => ?_)
    · have hw := hw.1 c37
      exact J58 _ _ _ hw hP hD hS (lv_sub hl [] rfl)
    have hw := hw.2 c37
    refine lv_iload_n hx hb dX4_canFollow_40 rfl (lv_at hl 0 rfl) ?_
    refine lv_bipush (v := (61 : Int32)) hx hb dX4_canFollow_41 (by decide) ?_
    refine lv_icmp_eq (tgt := 58) hx hb dX4_canFollow_43 (by decide) (fun c43 => ?_) (fun c43 => ?_)
    · have hw := hw.1 c43
      exact J58 _ _ _ hw hP hD hS (lv_sub hl [] rfl)
    have hw := hw.2 c43
    refine lv_iload_n hx hb dX4_canFollow_46 rfl (lv_at hl 0 rfl) ?_
    refine lv_bipush (v := (126 : Int32)) hx hb dX4_canFollow_47 (by decide) ?_
    refine lv_icmp_eq (tgt := 58) hx hb dX4_canFollow_49 (by decide) (fun c49 => ?_) (fun c49 => ?_)
    · have hw := hw.1 c49
      exact J58 _ _ _ hw hP hD hS (lv_sub hl [] rfl)
    have hw := hw.2 c49
    refine lv_iload_n hx hb dX4_canFollow_52 rfl (lv_at hl 0 rfl) ?_
    refine lv_bipush (v := (33 : Int32)) hx hb dX4_canFollow_53 (by decide) ?_
    refine lv_icmp_ne (tgt := 62) hx hb dX4_canFollow_55 (by decide) (fun c55 => ?_) (fun c55 => ?_)
    · have hw := hw.2 c55
      refine lv_iconst (v := (0 : Int32)) hx hb dX4_canFollow_62 (by decide) ?_
      exact z_zret hx hb hr hlocks rfl () hw hP hS dX4_canFollow_63
    have hw := hw.1 c55
    exact J58 _ _ _ hw hP hD hS (lv_sub hl [] rfl)
  have hw := hw.2 c13
  refine lv_iload_n hx hb dX4_canFollow_16 rfl (lv_at hl 0 rfl) ?_
  refine lv_bipush (v := (49 : Int32)) hx hb dX4_canFollow_17 (by decide) ?_
  refine lv_icmp_lt (tgt := 32) hx hb dX4_canFollow_19 (by decide) (fun c19 => ?_) (fun c19 => ?_)
  · have hw := hw.1 c19
    exact J32 _ _ _ hw hP hD hS (lv_sub hl [] rfl)
  have hw := hw.2 c19
  refine lv_iload_n hx hb dX4_canFollow_22 rfl (lv_at hl 0 rfl) ?_
  refine lv_bipush (v := (57 : Int32)) hx hb dX4_canFollow_23 (by decide) ?_
  refine lv_icmp_gt (tgt := 32) hx hb dX4_canFollow_25 (by decide) (fun c25 => ?_) (fun c25 => ?_)
  · have hw := hw.1 c25
    exact J32 _ _ _ hw hP hD hS (lv_sub hl [] rfl)
  have hw := hw.2 c25
  refine lv_iconst (v := (1 : Int32)) hx hb dX4_canFollow_28 (by decide) ?_
  refine lv_goto (tgt := 33) hx hb dX4_canFollow_29 (by decide) ?_
  exact z_zret hx hb hr hlocks rfl () hw hP hS dX4_canFollow_33
abbrev cw_X4_firstFault (cC : ClassId) (h h_signs : Nat) (f_signs : Nat → Int32) (f_count : Int32) : va_W := [(h, .inr (4, [.ref h_signs, .int f_count])), (h_signs, .inl (cC, 60, .inl f_signs))]
abbrev q_X4_firstFault (D : va_G) (cC : ClassId) (h h_signs : Nat) (post : Int32 → Prop) (f_signs : Nat → Int32) (f_count : Int32) (A : Nat → Prop) : Array Value → State → Outcome → State → Prop := va_Qi (S := Unit) (fun r _ => post r ) (fun _ t => va_P D vwCl (cw_X4_firstFault cC h h_signs f_signs f_count) t.heap) A
abbrev v_X4_firstFault : List Cond := .code yX4_firstFault cX4_firstFault 2 (some .int) :: zB
theorem hd_X4_firstFault : yX4_firstFault.cls = RX4 ∧ yX4_firstFault.cls ≠ "java/lang/invoke/MethodHandle" ∧ yX4_firstFault.cls ≠ "java/lang/invoke/VarHandle" ∧ (parseMethodDescriptor yX4_firstFault.desc).map (fun d => d.parameters.length) = some 0 := by decide +kernel
set_option maxHeartbeats 4000000 in
set_option maxRecDepth 100000 in
theorem c_X4_firstFault (l : Launch) (D : va_G) (cI cC cZ : ClassId) (h h_signs : Nat) (f_signs : Nat → Int32) (f_count : Int32) (sz : Nat) (post : Int32 → Prop) (hw : w_X4_firstFault post f_signs f_count) : Met l yX4_firstFault v_X4_firstFault ({ frames := 4, cells := 0, slots := 0, locals := 86 } : Room) (va_Pc [.ref h] (zPre D (zT cI cC cZ) sz (cw_X4_firstFault cC h h_signs f_signs f_count))) (q_X4_firstFault D cC h h_signs post f_signs f_count (va_A (cw_X4_firstFault cC h h_signs f_signs f_count) sz)) 0 0 (va_A (cw_X4_firstFault cC h h_signs f_signs f_count) sz) := by
  refine Met.ofW (cc := cX4_firstFault) (maxL := 2) (ret := (some .int)) (by decide) rfl ?_
  intro p e s m args below meth c s₁ B hml hv
  obtain ⟨rfl, hsz, hP, hK, hD0⟩ := hv
  subst hsz
  have hx := B.exec
  have hb := B.bytes
  have hr := B.returns
  have hz : ∀ w ∈ zB, w.before _ s = true := fun w h => atoms_spec (ws := v_X4_firstFault) B.pre w (List.mem_cons_of_mem _ h)
  have hown : s.vm.findClass RX4 = some m.cls := findClass_of_methodNamed B.named
  have hlocks := B.notSynchronized
  have hF : CallFix p m c cX4_firstFault 2 s (([.ref h] : List Value).toArray) zB RX4 := ⟨hx, hb, hml, hown, hz⟩
  have hD := hD0.self (sz := s.heap.size)
  generalize hAe : va_A (cw_X4_firstFault cC h h_signs f_signs f_count) s.heap.size = A at hD ⊢
  have hA : ∀ q : Nat, s.heap.size ≤ q → A q := fun q h => by rw [← hAe]; exact Or.inr h
  have hS : va_S A s.heap s.heap [] := va_S.rf
  have hP : va_P D vwCl (cw_X4_firstFault cC h h_signs f_signs f_count) s.heap := hP
  have hl := lv_entry ([.ref h]) (n := 2) (Nat.le_of_ble_eq_true rfl)
  rw [lg_entry_eq]
  generalize (lg_sl ([.ref h]) ++ List.replicate (2 - (lg_sl ([.ref h])).length) Slot.unset).toArray = ls at hl ⊢
  have hl : lv_has ls 2 [(0, .ref h)] := hl
  have L2 : ∀ (n2 : Nat) (x1 : Int32) (H : Heap) (locs : List Loc) (ls : Array Slot) (hw : w_X4_firstFault_B2 post f_signs f_count n2 x1) (hP : va_P D vwCl (cw_X4_firstFault cC h h_signs f_signs f_count) H) (hD : va_D A (cw_X4_firstFault cC h h_signs f_signs f_count)) (hS : va_S A s.heap H locs) (hl : lv_has ls 2 [(0, .ref h), (1, .int x1)]), W p l e (headSpec v_X4_firstFault ({ frames := 4, cells := 0, slots := 0, locals := 86 } : Room)).room s m (([.ref h] : List Value).toArray) below meth c H locs 0 0 (MQ below (q_X4_firstFault D cC h h_signs post f_signs f_count A) (([.ref h] : List Value).toArray) s 0 0 A) (F0 m 2 ls []) := by
    intro n2
    induction n2 with
    | zero => intro x1 H locs ls hw; exact False.elim hw
    | succ n2 ih2 =>
      have J80 : ∀ (s0 : Int32) (s1 : Int32) (H : Heap) (locs : List Loc) (ls : Array Slot) (hw : w_X4_firstFault_B80 post f_signs f_count (fun x1 => w_X4_firstFault_B2 post f_signs f_count n2 x1) s0 s1) (hP : va_P D vwCl (cw_X4_firstFault cC h h_signs f_signs f_count) H) (hD : va_D A (cw_X4_firstFault cC h h_signs f_signs f_count)) (hS : va_S A s.heap H locs) (hl : lv_has ls 2 [(0, .ref h)]), W p l e (headSpec v_X4_firstFault ({ frames := 4, cells := 0, slots := 0, locals := 86 } : Room)).room s m (([.ref h] : List Value).toArray) below meth c H locs 0 0 (MQ below (q_X4_firstFault D cC h h_signs post f_signs f_count A) (([.ref h] : List Value).toArray) s 0 0 A) (F0 m 80 ls [.int s1, .int s0]) := by
        intro s0 s1 H locs ls hw hP hD hS hl
        unfold w_X4_firstFault_B80 at hw
        refine lv_iadd hx hb dX4_firstFault_80 ?_
        refine lv_istore_n (lv' := [(1, .int (s0 + s1)), (0, .ref h)]) hx hb dX4_firstFault_81 rfl hl (by decide) rfl (fun ls hl => ?_)
        refine lv_goto (tgt := 2) hx hb dX4_firstFault_82 (by decide) ?_
        exact ih2 (s0 + s1) _ _ _ hw hP hD hS (lv_sub hl [1, 0] rfl)
      have J66 : ∀ (x1 : Int32) (H : Heap) (locs : List Loc) (ls : Array Slot) (hw : w_X4_firstFault_B66 post f_signs f_count (fun x1 => w_X4_firstFault_B2 post f_signs f_count n2 x1) x1) (hP : va_P D vwCl (cw_X4_firstFault cC h h_signs f_signs f_count) H) (hD : va_D A (cw_X4_firstFault cC h h_signs f_signs f_count)) (hS : va_S A s.heap H locs) (hl : lv_has ls 2 [(0, .ref h), (1, .int x1)]), W p l e (headSpec v_X4_firstFault ({ frames := 4, cells := 0, slots := 0, locals := 86 } : Room)).room s m (([.ref h] : List Value).toArray) below meth c H locs 0 0 (MQ below (q_X4_firstFault D cC h h_signs post f_signs f_count A) (([.ref h] : List Value).toArray) s 0 0 A) (F0 m 66 ls []) := by
        intro x1 H locs ls hw hP hD hS hl
        unfold w_X4_firstFault_B66 at hw
        refine lv_iload_n hx hb dX4_firstFault_66 rfl (lv_at hl 1 rfl) ?_
        refine lv_aload_n hx hb dX4_firstFault_67 rfl (lv_at hl 0 rfl) ?_
        refine lv_iload_n hx hb dX4_firstFault_68 rfl (lv_at hl 1 rfl) ?_
        refine z_ri (z_runV (As := [.int x1]) (rest := [.int x1]) hF (c_X4_isHour l D cI cC cZ h h_signs (.int f_count) f_signs x1 _ _ hw) (cwV 1 hz (z_gV z2_32 z2_33 z2_34 z1_6 z2_35) rfl rfl rfl hd_X4_isHour ⟨Nat.le_of_ble_eq_true rfl, Nat.le_of_ble_eq_true rfl⟩) hK hP hD [0, 1] rfl rfl 0 4 rfl rfl rfl rfl hl.1 rfl (Nat.le_of_ble_eq_true rfl) dX4_firstFault_69 ⟨Nat.zero_le _, Nat.zero_le _⟩) hP hD hS hA [0, 1] rfl (fun _ => rfl) (fun _ => cw_X4_firstFault cC h h_signs f_signs f_count) (fun _ => rfl) (fun r69 u69 H locs hw hP hD hS => ?_)
        obtain ⟨hn69, hw⟩ := hw
        try dsimp only at hw
        refine lv_if_eq (tgt := 79) hx hb dX4_firstFault_72 (by decide) (fun c72 => ?_) (fun c72 => ?_)
        · have hw := hw.1 c72
          refine lv_iconst (v := (2 : Int32)) hx hb dX4_firstFault_79 (by decide) ?_
          exact J80 x1 (2 : Int32) _ _ _ hw hP hD hS (lv_sub hl [0] rfl)
        have hw := hw.2 c72
        refine lv_iconst (v := (1 : Int32)) hx hb dX4_firstFault_75 (by decide) ?_
        refine lv_goto (tgt := 80) hx hb dX4_firstFault_76 (by decide) ?_
        exact J80 x1 (1 : Int32) _ _ _ hw hP hD hS (lv_sub hl [0] rfl)
      have J39 : ∀ (x1 : Int32) (H : Heap) (locs : List Loc) (ls : Array Slot) (hw : w_X4_firstFault_B39 post f_signs f_count (fun x1 => w_X4_firstFault_B2 post f_signs f_count n2 x1) x1) (hP : va_P D vwCl (cw_X4_firstFault cC h h_signs f_signs f_count) H) (hD : va_D A (cw_X4_firstFault cC h h_signs f_signs f_count)) (hS : va_S A s.heap H locs) (hl : lv_has ls 2 [(0, .ref h), (1, .int x1)]), W p l e (headSpec v_X4_firstFault ({ frames := 4, cells := 0, slots := 0, locals := 86 } : Room)).room s m (([.ref h] : List Value).toArray) below meth c H locs 0 0 (MQ below (q_X4_firstFault D cC h h_signs post f_signs f_count A) (([.ref h] : List Value).toArray) s 0 0 A) (F0 m 39 ls []) := by
        intro x1 H locs ls hw hP hD hS hl
        unfold w_X4_firstFault_B39 at hw
        refine lv_iload_n hx hb dX4_firstFault_39 rfl (lv_at hl 1 rfl) ?_
        refine lv_iconst (v := (1 : Int32)) hx hb dX4_firstFault_40 (by decide) ?_
        refine lv_iadd hx hb dX4_firstFault_41 ?_
        refine lv_aload_n hx hb dX4_firstFault_42 rfl (lv_at hl 0 rfl) ?_
        refine va_get (D := D) (ci := 4) (v := .int f_count) (C := RX4) (T := TX4) (N := 2) hx hb hz hX_X4 hown hK.1 hP 0 rfl rfl 1 (by decide) (hz _ z1_118) (fun _ h9 => h9) rfl dX4_firstFault_43 ?_
        refine lv_icmp_ne (tgt := 54) hx hb dX4_firstFault_46 (by decide) (fun c46 => ?_) (fun c46 => ?_)
        · have hw := hw.2 c46
          refine lv_aload_n hx hb dX4_firstFault_54 rfl (lv_at hl 0 rfl) ?_
          refine lv_iload_n hx hb dX4_firstFault_55 rfl (lv_at hl 1 rfl) ?_
          refine z_ri (z_runV (As := [.int x1]) (rest := []) hF (c_X4_canFollow l D cI cC cZ h h_signs (.int f_count) f_signs x1 _ _ hw) (cwV 1 hz (z_gV z2_49 z2_51 zp_3 z1_6 z2_52) rfl rfl rfl hd_X4_canFollow ⟨Nat.le_of_ble_eq_true rfl, Nat.le_of_ble_eq_true rfl⟩) hK hP hD [0, 1] rfl rfl 0 4 rfl rfl rfl rfl hl.1 rfl (Nat.le_of_ble_eq_true rfl) dX4_firstFault_56 ⟨Nat.zero_le _, Nat.zero_le _⟩) hP hD hS hA [0, 1] rfl (fun _ => rfl) (fun _ => cw_X4_firstFault cC h h_signs f_signs f_count) (fun _ => rfl) (fun r56 u56 H locs hw hP hD hS => ?_)
          obtain ⟨hn56, hw⟩ := hw
          try dsimp only at hw
          refine lv_if_ne (tgt := 66) hx hb dX4_firstFault_59 (by decide) (fun c59 => ?_) (fun c59 => ?_)
          · have hw := hw.2 c59
            exact J66 x1 _ _ _ hw hP hD hS (lv_sub hl [0, 1] rfl)
          have hw := hw.1 c59
          refine lv_iload_n hx hb dX4_firstFault_62 rfl (lv_at hl 1 rfl) ?_
          refine lv_iconst (v := (1 : Int32)) hx hb dX4_firstFault_63 (by decide) ?_
          refine lv_iadd hx hb dX4_firstFault_64 ?_
          exact z_iret hx hb hr hlocks () hw hP hS dX4_firstFault_65
        have hw := hw.1 c46
        refine lv_aload_n hx hb dX4_firstFault_49 rfl (lv_at hl 0 rfl) ?_
        refine va_get (D := D) (ci := 4) (v := .int f_count) (C := RX4) (T := TX4) (N := 2) hx hb hz hX_X4 hown hK.1 hP 0 rfl rfl 1 (by decide) (hz _ z1_118) (fun _ h9 => h9) rfl dX4_firstFault_50 ?_
        exact z_iret hx hb hr hlocks () hw hP hS dX4_firstFault_53
      intro x1 H locs ls hw hP hD hS hl
      unfold w_X4_firstFault_B2 at hw
      refine lv_iload_n hx hb dX4_firstFault_2 rfl (lv_at hl 1 rfl) ?_
      refine lv_aload_n hx hb dX4_firstFault_3 rfl (lv_at hl 0 rfl) ?_
      refine va_get (D := D) (ci := 4) (v := .int f_count) (C := RX4) (T := TX4) (N := 2) hx hb hz hX_X4 hown hK.1 hP 0 rfl rfl 1 (by decide) (hz _ z1_118) (fun _ h9 => h9) rfl dX4_firstFault_4 ?_
      refine lv_icmp_ge (tgt := 85) hx hb dX4_firstFault_7 (by decide) (fun c7 => ?_) (fun c7 => ?_)
      · have hw := hw.1 c7
        refine lv_bipush (v := (-6 : Int32)) hx hb dX4_firstFault_85 (by decide) ?_
        exact z_iret hx hb hr hlocks () hw hP hS dX4_firstFault_87
      have hw := hw.2 c7
      refine lv_aload_n hx hb dX4_firstFault_10 rfl (lv_at hl 0 rfl) ?_
      refine lv_iload_n hx hb dX4_firstFault_11 rfl (lv_at hl 1 rfl) ?_
      refine z_ri (z_runV (As := [.int x1]) (rest := []) hF (c_X4_isHour l D cI cC cZ h h_signs (.int f_count) f_signs x1 _ _ hw) (cwV 1 hz (z_gV z2_32 z2_33 z2_34 z1_6 z2_35) rfl rfl rfl hd_X4_isHour ⟨Nat.le_of_ble_eq_true rfl, Nat.le_of_ble_eq_true rfl⟩) hK hP hD [0, 1] rfl rfl 0 4 rfl rfl rfl rfl hl.1 rfl (Nat.le_of_ble_eq_true rfl) dX4_firstFault_12 ⟨Nat.zero_le _, Nat.zero_le _⟩) hP hD hS hA [0, 1] rfl (fun _ => rfl) (fun _ => cw_X4_firstFault cC h h_signs f_signs f_count) (fun _ => rfl) (fun r12 u12 H locs hw hP hD hS => ?_)
      obtain ⟨hn12, hw⟩ := hw
      try dsimp only at hw
      refine lv_if_eq (tgt := 21) hx hb dX4_firstFault_15 (by decide) (fun c15 => ?_) (fun c15 => ?_)
      · have hw := hw.1 c15
        refine lv_aload_n hx hb dX4_firstFault_21 rfl (lv_at hl 0 rfl) ?_
        refine lv_iload_n hx hb dX4_firstFault_22 rfl (lv_at hl 1 rfl) ?_
        refine z_ri (z_runV (As := [.int x1]) (rest := []) hF (c_X4_isMove l D cI cC cZ h h_signs (.int f_count) f_signs x1 _ _ hw) (cwV 1 hz (z_gV z2_40 z2_42 zp_1 z1_6 z2_43) rfl rfl rfl hd_X4_isMove ⟨Nat.le_of_ble_eq_true rfl, Nat.le_of_ble_eq_true rfl⟩) hK hP hD [0, 1] rfl rfl 0 4 rfl rfl rfl rfl hl.1 rfl (Nat.le_of_ble_eq_true rfl) dX4_firstFault_23 ⟨Nat.zero_le _, Nat.zero_le _⟩) hP hD hS hA [0, 1] rfl (fun _ => rfl) (fun _ => cw_X4_firstFault cC h h_signs f_signs f_count) (fun _ => rfl) (fun r23 u23 H locs hw hP hD hS => ?_)
        obtain ⟨hn23, hw⟩ := hw
        try dsimp only at hw
        refine lv_if_ne (tgt := 39) hx hb dX4_firstFault_26 (by decide) (fun c26 => ?_) (fun c26 => ?_)
        · have hw := hw.2 c26
          exact J39 x1 _ _ _ hw hP hD hS (lv_sub hl [0, 1] rfl)
        have hw := hw.1 c26
        refine lv_aload_n hx hb dX4_firstFault_29 rfl (lv_at hl 0 rfl) ?_
        refine lv_iload_n hx hb dX4_firstFault_30 rfl (lv_at hl 1 rfl) ?_
        refine z_ri (z_runV (As := [.int x1]) (rest := []) hF (c_X4_isLetter l D cI cC cZ h h_signs (.int f_count) f_signs x1 _ _ hw) (cwV 1 hz (z_gV z2_44 z2_46 zp_2 z1_6 z2_47) rfl rfl rfl hd_X4_isLetter ⟨Nat.le_of_ble_eq_true rfl, Nat.le_of_ble_eq_true rfl⟩) hK hP hD [0, 1] rfl rfl 0 4 rfl rfl rfl rfl hl.1 rfl (Nat.le_of_ble_eq_true rfl) dX4_firstFault_31 ⟨Nat.zero_le _, Nat.zero_le _⟩) hP hD hS hA [0, 1] rfl (fun _ => rfl) (fun _ => cw_X4_firstFault cC h h_signs f_signs f_count) (fun _ => rfl) (fun r31 u31 H locs hw hP hD hS => ?_)
        obtain ⟨hn31, hw⟩ := hw
        try dsimp only at hw
        refine lv_if_ne (tgt := 39) hx hb dX4_firstFault_34 (by decide) (fun c34 => ?_) (fun c34 => ?_)
        · have hw := hw.2 c34
          exact J39 x1 _ _ _ hw hP hD hS (lv_sub hl [0, 1] rfl)
        have hw := hw.1 c34
        refine lv_iload_n hx hb dX4_firstFault_37 rfl (lv_at hl 1 rfl) ?_
        exact z_iret hx hb hr hlocks () hw hP hS dX4_firstFault_38
      have hw := hw.2 c15
      refine lv_goto (tgt := 66) hx hb dX4_firstFault_18 (by decide) ?_
      exact J66 x1 _ _ _ hw hP hD hS (lv_sub hl [0, 1] rfl)
  unfold w_X4_firstFault at hw
  refine lv_iconst (v := (0 : Int32)) hx hb dX4_firstFault_0 (by decide) ?_
  refine lv_istore_n (lv' := [(1, .int (0 : Int32)), (0, .ref h)]) hx hb dX4_firstFault_1 rfl hl (by decide) rfl (fun ls hl => ?_)
  obtain ⟨n2, hw⟩ := hw
  exact L2 n2 (0 : Int32) _ _ _ hw hP hD hS (lv_sub hl [1, 0] rfl)
abbrev cw_X8_fault (cC : ClassId) (h h_pad h_pad_signs : Nat) (g_world g_images g_hearing g_bowls g_guesses : Value) (f_pad_signs : Nat → Int32) (f_pad_count : Int32) : va_W := [(h, .inr (8, [g_world, g_images, .ref h_pad, g_hearing, g_bowls, g_guesses])), (h_pad, .inr (4, [.ref h_pad_signs, .int f_pad_count])), (h_pad_signs, .inl (cC, 60, .inl f_pad_signs))]
abbrev q_X8_fault (D : va_G) (cC : ClassId) (h h_pad h_pad_signs : Nat) (g_world g_images g_hearing g_bowls g_guesses : Value) (post : Int32 → Prop) (f_pad_signs : Nat → Int32) (f_pad_count : Int32) (A : Nat → Prop) : Array Value → State → Outcome → State → Prop := va_Qi (S := Unit) (fun r _ => post r ) (fun _ t => va_P D vwCl (cw_X8_fault cC h h_pad h_pad_signs g_world g_images g_hearing g_bowls g_guesses f_pad_signs f_pad_count) t.heap) A
abbrev v_X8_fault : List Cond := .code yX8_fault cX8_fault 1 (some .int) :: zB
theorem hd_X8_fault : yX8_fault.cls = RX8 ∧ yX8_fault.cls ≠ "java/lang/invoke/MethodHandle" ∧ yX8_fault.cls ≠ "java/lang/invoke/VarHandle" ∧ (parseMethodDescriptor yX8_fault.desc).map (fun d => d.parameters.length) = some 0 := by decide +kernel
set_option maxHeartbeats 4000000 in
set_option maxRecDepth 100000 in
theorem c_X8_fault (l : Launch) (D : va_G) (cI cC cZ : ClassId) (h h_pad h_pad_signs : Nat) (g_world g_images g_hearing g_bowls g_guesses : Value) (f_pad_signs : Nat → Int32) (f_pad_count : Int32) (sz : Nat) (post : Int32 → Prop) (hw : w_X8_fault post f_pad_signs f_pad_count) : Met l yX8_fault v_X8_fault ({ frames := 5, cells := 0, slots := 0, locals := 107 } : Room) (va_Pc [.ref h] (zPre D (zT cI cC cZ) sz (cw_X8_fault cC h h_pad h_pad_signs g_world g_images g_hearing g_bowls g_guesses f_pad_signs f_pad_count))) (q_X8_fault D cC h h_pad h_pad_signs g_world g_images g_hearing g_bowls g_guesses post f_pad_signs f_pad_count (va_A (cw_X8_fault cC h h_pad h_pad_signs g_world g_images g_hearing g_bowls g_guesses f_pad_signs f_pad_count) sz)) 0 0 (va_A (cw_X8_fault cC h h_pad h_pad_signs g_world g_images g_hearing g_bowls g_guesses f_pad_signs f_pad_count) sz) := by
  refine Met.ofW (cc := cX8_fault) (maxL := 1) (ret := (some .int)) (by decide) rfl ?_
  intro p e s m args below meth c s₁ B hml hv
  obtain ⟨rfl, hsz, hP, hK, hD0⟩ := hv
  subst hsz
  have hx := B.exec
  have hb := B.bytes
  have hr := B.returns
  have hz : ∀ w ∈ zB, w.before _ s = true := fun w h => atoms_spec (ws := v_X8_fault) B.pre w (List.mem_cons_of_mem _ h)
  have hown : s.vm.findClass RX8 = some m.cls := findClass_of_methodNamed B.named
  have hlocks := B.notSynchronized
  have hF : CallFix p m c cX8_fault 1 s (([.ref h] : List Value).toArray) zB RX8 := ⟨hx, hb, hml, hown, hz⟩
  have hD := hD0.self (sz := s.heap.size)
  generalize hAe : va_A (cw_X8_fault cC h h_pad h_pad_signs g_world g_images g_hearing g_bowls g_guesses f_pad_signs f_pad_count) s.heap.size = A at hD ⊢
  have hA : ∀ q : Nat, s.heap.size ≤ q → A q := fun q h => by rw [← hAe]; exact Or.inr h
  have hS : va_S A s.heap s.heap [] := va_S.rf
  have hP : va_P D vwCl (cw_X8_fault cC h h_pad h_pad_signs g_world g_images g_hearing g_bowls g_guesses f_pad_signs f_pad_count) s.heap := hP
  have hl := lv_entry ([.ref h]) (n := 1) (Nat.le_of_ble_eq_true rfl)
  rw [lg_entry_eq]
  generalize (lg_sl ([.ref h]) ++ List.replicate (1 - (lg_sl ([.ref h])).length) Slot.unset).toArray = ls at hl ⊢
  have hl : lv_has ls 1 [(0, .ref h)] := hl
  unfold w_X8_fault at hw
  refine lv_aload_n hx hb dX8_fault_0 rfl (lv_at hl 0 rfl) ?_
  refine va_get (D := D) (ci := 8) (v := .ref h_pad) (C := RX8) (T := TX8) (N := 6) hx hb hz hX_X8 hown hK.1 hP 0 rfl rfl 2 (by decide) (hz _ z1_185) (fun _ h9 => h9) rfl dX8_fault_1 ?_
  refine z_ri (z_runV (As := []) (rest := []) hF (c_X4_firstFault l D cI cC cZ h_pad h_pad_signs f_pad_signs f_pad_count _ _ hw) (cwV 0 hz (z_gV z2_28 z2_29 z2_30 z1_6 z2_31) rfl rfl rfl hd_X4_firstFault ⟨Nat.le_of_ble_eq_true rfl, Nat.le_of_ble_eq_true rfl⟩) hK hP hD [1, 2] rfl rfl 1 4 rfl rfl rfl rfl hl.1 rfl (Nat.le_of_ble_eq_true rfl) dX8_fault_4 ⟨Nat.zero_le _, Nat.zero_le _⟩) hP hD hS hA [1, 2] rfl (fun _ => rfl) (fun _ => cw_X8_fault cC h h_pad h_pad_signs g_world g_images g_hearing g_bowls g_guesses f_pad_signs f_pad_count) (fun _ => rfl) (fun r4 u4 H locs hw hP hD hS => ?_)
  try dsimp only at hw
  exact z_iret hx hb hr hlocks () hw hP hS dX8_fault_7
abbrev cw_X1_become (cI : ClassId) (h h_places h_creams ha1 ha1_places ha1_creams : Nat) (f_places : Nat → Int32) (f_creams : Nat → Int32) (f_present : Int32) (f_lying : Int32) (f_his : Int32) (f_power : Int32) (f_spite : Int32) (f_hour : Int32) (f_a1_places : Nat → Int32) (f_a1_creams : Nat → Int32) (f_a1_present : Int32) (f_a1_lying : Int32) (f_a1_his : Int32) (f_a1_power : Int32) (f_a1_spite : Int32) (f_a1_hour : Int32) : va_W := [(h, .inr (1, [.ref h_places, .ref h_creams, .int f_present, .int f_lying, .int f_his, .int f_power, .int f_spite, .int f_hour])), (h_places, .inl (cI, 8, .inl f_places)), (h_creams, .inl (cI, 8, .inl f_creams)), (ha1, .inr (1, [.ref ha1_places, .ref ha1_creams, .int f_a1_present, .int f_a1_lying, .int f_a1_his, .int f_a1_power, .int f_a1_spite, .int f_a1_hour])), (ha1_places, .inl (cI, 8, .inl f_a1_places)), (ha1_creams, .inl (cI, 8, .inl f_a1_creams))]
abbrev q_X1_become (D : va_G) (cI : ClassId) (h h_places h_creams ha1 ha1_places ha1_creams : Nat) (post : (Nat → Int32) → (Nat → Int32) → Int32 → Int32 → Int32 → Int32 → Int32 → Int32 → Prop) (f_a1_places : Nat → Int32) (f_a1_creams : Nat → Int32) (f_a1_present : Int32) (f_a1_lying : Int32) (f_a1_his : Int32) (f_a1_power : Int32) (f_a1_spite : Int32) (f_a1_hour : Int32) (A : Nat → Prop) : Array Value → State → Outcome → State → Prop := va_Qv (S := (Nat → Int32) × (Nat → Int32) × Int32 × Int32 × Int32 × Int32 × Int32 × Int32) (fun u => post u.1 u.2.1 u.2.2.1 u.2.2.2.1 u.2.2.2.2.1 u.2.2.2.2.2.1 u.2.2.2.2.2.2.1 u.2.2.2.2.2.2.2) (fun u t => va_P D vwCl (cw_X1_become cI h h_places h_creams ha1 ha1_places ha1_creams u.1 u.2.1 u.2.2.1 u.2.2.2.1 u.2.2.2.2.1 u.2.2.2.2.2.1 u.2.2.2.2.2.2.1 u.2.2.2.2.2.2.2 f_a1_places f_a1_creams f_a1_present f_a1_lying f_a1_his f_a1_power f_a1_spite f_a1_hour) t.heap) A
abbrev v_X1_become : List Cond := .code yX1_become cX1_become 2 none :: zB
theorem hd_X1_become : yX1_become.cls = RX1 ∧ yX1_become.cls ≠ "java/lang/invoke/MethodHandle" ∧ yX1_become.cls ≠ "java/lang/invoke/VarHandle" ∧ (parseMethodDescriptor yX1_become.desc).map (fun d => d.parameters.length) = some 1 := by decide +kernel
set_option maxHeartbeats 4000000 in
set_option maxRecDepth 100000 in
theorem c_X1_become (l : Launch) (D : va_G) (cI cC cZ : ClassId) (h h_places h_creams ha1 ha1_places ha1_creams : Nat) (f_places : Nat → Int32) (f_creams : Nat → Int32) (f_present : Int32) (f_lying : Int32) (f_his : Int32) (f_power : Int32) (f_spite : Int32) (f_hour : Int32) (f_a1_places : Nat → Int32) (f_a1_creams : Nat → Int32) (f_a1_present : Int32) (f_a1_lying : Int32) (f_a1_his : Int32) (f_a1_power : Int32) (f_a1_spite : Int32) (f_a1_hour : Int32) (sz : Nat) (post : (Nat → Int32) → (Nat → Int32) → Int32 → Int32 → Int32 → Int32 → Int32 → Int32 → Prop) (hw : w_X1_become post f_places f_creams f_present f_lying f_his f_power f_spite f_hour f_a1_places f_a1_creams f_a1_present f_a1_lying f_a1_his f_a1_power f_a1_spite f_a1_hour) : Met l yX1_become v_X1_become ({ frames := 1, cells := 0, slots := 0, locals := 40 } : Room) (va_Pc [.ref h, .ref ha1] (zPre D (zT cI cC cZ) sz (cw_X1_become cI h h_places h_creams ha1 ha1_places ha1_creams f_places f_creams f_present f_lying f_his f_power f_spite f_hour f_a1_places f_a1_creams f_a1_present f_a1_lying f_a1_his f_a1_power f_a1_spite f_a1_hour))) (q_X1_become D cI h h_places h_creams ha1 ha1_places ha1_creams post f_a1_places f_a1_creams f_a1_present f_a1_lying f_a1_his f_a1_power f_a1_spite f_a1_hour (va_A (cw_X1_become cI h h_places h_creams ha1 ha1_places ha1_creams f_places f_creams f_present f_lying f_his f_power f_spite f_hour f_a1_places f_a1_creams f_a1_present f_a1_lying f_a1_his f_a1_power f_a1_spite f_a1_hour) sz)) 0 0 (va_A (cw_X1_become cI h h_places h_creams ha1 ha1_places ha1_creams f_places f_creams f_present f_lying f_his f_power f_spite f_hour f_a1_places f_a1_creams f_a1_present f_a1_lying f_a1_his f_a1_power f_a1_spite f_a1_hour) sz) := by
  refine Met.ofW (cc := cX1_become) (maxL := 2) (ret := none) (by decide) rfl ?_
  intro p e s m args below meth c s₁ B hml hv
  obtain ⟨rfl, hsz, hP, hK, hD0⟩ := hv
  subst hsz
  have hx := B.exec
  have hb := B.bytes
  have hr := B.returns
  have hz : ∀ w ∈ zB, w.before _ s = true := fun w h => atoms_spec (ws := v_X1_become) B.pre w (List.mem_cons_of_mem _ h)
  have hown : s.vm.findClass RX1 = some m.cls := findClass_of_methodNamed B.named
  have hlocks := B.notSynchronized
  have hF : CallFix p m c cX1_become 2 s (([.ref h, .ref ha1] : List Value).toArray) zB RX1 := ⟨hx, hb, hml, hown, hz⟩
  have hD := hD0.self (sz := s.heap.size)
  generalize hAe : va_A (cw_X1_become cI h h_places h_creams ha1 ha1_places ha1_creams f_places f_creams f_present f_lying f_his f_power f_spite f_hour f_a1_places f_a1_creams f_a1_present f_a1_lying f_a1_his f_a1_power f_a1_spite f_a1_hour) s.heap.size = A at hD ⊢
  have hA : ∀ q : Nat, s.heap.size ≤ q → A q := fun q h => by rw [← hAe]; exact Or.inr h
  have hS : va_S A s.heap s.heap [] := va_S.rf
  have hP : va_P D vwCl (cw_X1_become cI h h_places h_creams ha1 ha1_places ha1_creams f_places f_creams f_present f_lying f_his f_power f_spite f_hour f_a1_places f_a1_creams f_a1_present f_a1_lying f_a1_his f_a1_power f_a1_spite f_a1_hour) s.heap := hP
  have hl := lv_entry ([.ref h, .ref ha1]) (n := 2) (Nat.le_of_ble_eq_true rfl)
  rw [lg_entry_eq]
  generalize (lg_sl ([.ref h, .ref ha1]) ++ List.replicate (2 - (lg_sl ([.ref h, .ref ha1])).length) Slot.unset).toArray = ls at hl ⊢
  have hl : lv_has ls 2 [(0, .ref h), (1, .ref ha1)] := hl
  unfold w_X1_become at hw
  refine lv_aload_n hx hb dX1_become_0 rfl (lv_at hl 1 rfl) ?_
  refine va_get (D := D) (ci := 1) (v := .ref ha1_places) (C := RX1) (T := TX1) (N := 8) hx hb hz hX_X1 hown hK.1 hP 3 rfl rfl 0 (by decide) (hz _ z1_35) (fun _ h9 => h9) rfl dX1_become_1 ?_
  refine lv_iconst (v := (0 : Int32)) hx hb dX1_become_4 (by decide) ?_
  refine lv_aload_n hx hb dX1_become_5 rfl (lv_at hl 0 rfl) ?_
  refine va_get (D := D) (ci := 1) (v := .ref h_places) (C := RX1) (T := TX1) (N := 8) hx hb hz hX_X1 hown hK.1 hP 0 rfl rfl 0 (by decide) (hz _ z1_35) (fun _ h9 => h9) rfl dX1_become_6 ?_
  refine lv_iconst (v := (0 : Int32)) hx hb dX1_become_9 (by decide) ?_
  refine lv_bipush (v := (8 : Int32)) hx hb dX1_become_10 (by decide) ?_
  refine va_copyi (ty := .int) hx hb (hml.trans hl.1.symm) hown (hz _ z2_69) (hz _ z2_71) (hz _ z2_70) (hz _ z1_12) hK.1 hP hD hS 4 1 0 0 rfl rfl rfl rfl rfl (by decide) (by decide) (by decide) (by decide) (by decide) (fun _ _ => rfl) (Nat.le_of_ble_eq_true rfl) (by decide) dX1_become_12 (fun H locs hP hD hS => ?_)
  have hP : va_P D vwCl (cw_X1_become cI h h_places h_creams ha1 ha1_places ha1_creams (va_cpy f_a1_places f_places (0 : Int32).toNatClampNeg (0 : Int32).toNatClampNeg (8 : Int32).toNatClampNeg) f_creams f_present f_lying f_his f_power f_spite f_hour f_a1_places f_a1_creams f_a1_present f_a1_lying f_a1_his f_a1_power f_a1_spite f_a1_hour) H := hP
  have hD : va_D A (cw_X1_become cI h h_places h_creams ha1 ha1_places ha1_creams (va_cpy f_a1_places f_places (0 : Int32).toNatClampNeg (0 : Int32).toNatClampNeg (8 : Int32).toNatClampNeg) f_creams f_present f_lying f_his f_power f_spite f_hour f_a1_places f_a1_creams f_a1_present f_a1_lying f_a1_his f_a1_power f_a1_spite f_a1_hour) := hD
  refine lv_aload_n hx hb dX1_become_15 rfl (lv_at hl 1 rfl) ?_
  refine va_get (D := D) (ci := 1) (v := .ref ha1_creams) (C := RX1) (T := TX1) (N := 8) hx hb hz hX_X1 hown hK.1 hP 3 rfl rfl 1 (by decide) (hz _ z1_36) (fun _ h9 => h9) rfl dX1_become_16 ?_
  refine lv_iconst (v := (0 : Int32)) hx hb dX1_become_19 (by decide) ?_
  refine lv_aload_n hx hb dX1_become_20 rfl (lv_at hl 0 rfl) ?_
  refine va_get (D := D) (ci := 1) (v := .ref h_creams) (C := RX1) (T := TX1) (N := 8) hx hb hz hX_X1 hown hK.1 hP 0 rfl rfl 1 (by decide) (hz _ z1_36) (fun _ h9 => h9) rfl dX1_become_21 ?_
  refine lv_iconst (v := (0 : Int32)) hx hb dX1_become_24 (by decide) ?_
  refine lv_bipush (v := (8 : Int32)) hx hb dX1_become_25 (by decide) ?_
  refine va_copyi (ty := .int) hx hb (hml.trans hl.1.symm) hown (hz _ z2_69) (hz _ z2_71) (hz _ z2_70) (hz _ z1_12) hK.1 hP hD hS 5 2 0 0 rfl rfl rfl rfl rfl (by decide) (by decide) (by decide) (by decide) (by decide) (fun _ _ => rfl) (Nat.le_of_ble_eq_true rfl) (by decide) dX1_become_27 (fun H locs hP hD hS => ?_)
  have hP : va_P D vwCl (cw_X1_become cI h h_places h_creams ha1 ha1_places ha1_creams (va_cpy f_a1_places f_places (0 : Int32).toNatClampNeg (0 : Int32).toNatClampNeg (8 : Int32).toNatClampNeg) (va_cpy f_a1_creams f_creams (0 : Int32).toNatClampNeg (0 : Int32).toNatClampNeg (8 : Int32).toNatClampNeg) f_present f_lying f_his f_power f_spite f_hour f_a1_places f_a1_creams f_a1_present f_a1_lying f_a1_his f_a1_power f_a1_spite f_a1_hour) H := hP
  have hD : va_D A (cw_X1_become cI h h_places h_creams ha1 ha1_places ha1_creams (va_cpy f_a1_places f_places (0 : Int32).toNatClampNeg (0 : Int32).toNatClampNeg (8 : Int32).toNatClampNeg) (va_cpy f_a1_creams f_creams (0 : Int32).toNatClampNeg (0 : Int32).toNatClampNeg (8 : Int32).toNatClampNeg) f_present f_lying f_his f_power f_spite f_hour f_a1_places f_a1_creams f_a1_present f_a1_lying f_a1_his f_a1_power f_a1_spite f_a1_hour) := hD
  refine lv_aload_n hx hb dX1_become_30 rfl (lv_at hl 0 rfl) ?_
  refine lv_aload_n hx hb dX1_become_31 rfl (lv_at hl 1 rfl) ?_
  refine va_get (D := D) (ci := 1) (v := .int f_a1_present) (C := RX1) (T := TX1) (N := 8) hx hb hz hX_X1 hown hK.1 hP 3 rfl rfl 2 (by decide) (hz _ z1_37) (fun _ h9 => h9) rfl dX1_become_32 ?_
  refine va_put (D := D) (ci := 1) (v := .int f_a1_present) (ty := .int) (C := RX1) (T := TX1) (N := 8) hx hb hz hX_X1 tyX1 tyX1_ok nmX1 hown hK.1 hP hD hS 0 rfl rfl 2 (by decide) (hz _ z1_37) (fun _ h9 => h9) rfl (tyX1_ok 2 (by decide)) rfl rfl (Nat.le_of_ble_eq_true rfl) dX1_become_35 (fun H locs hP hD hS => ?_)
  have hP : va_P D vwCl (cw_X1_become cI h h_places h_creams ha1 ha1_places ha1_creams (va_cpy f_a1_places f_places (0 : Int32).toNatClampNeg (0 : Int32).toNatClampNeg (8 : Int32).toNatClampNeg) (va_cpy f_a1_creams f_creams (0 : Int32).toNatClampNeg (0 : Int32).toNatClampNeg (8 : Int32).toNatClampNeg) f_a1_present f_lying f_his f_power f_spite f_hour f_a1_places f_a1_creams f_a1_present f_a1_lying f_a1_his f_a1_power f_a1_spite f_a1_hour) H := hP
  have hD : va_D A (cw_X1_become cI h h_places h_creams ha1 ha1_places ha1_creams (va_cpy f_a1_places f_places (0 : Int32).toNatClampNeg (0 : Int32).toNatClampNeg (8 : Int32).toNatClampNeg) (va_cpy f_a1_creams f_creams (0 : Int32).toNatClampNeg (0 : Int32).toNatClampNeg (8 : Int32).toNatClampNeg) f_a1_present f_lying f_his f_power f_spite f_hour f_a1_places f_a1_creams f_a1_present f_a1_lying f_a1_his f_a1_power f_a1_spite f_a1_hour) := hD
  refine lv_aload_n hx hb dX1_become_38 rfl (lv_at hl 0 rfl) ?_
  refine lv_aload_n hx hb dX1_become_39 rfl (lv_at hl 1 rfl) ?_
  refine va_get (D := D) (ci := 1) (v := .int f_a1_lying) (C := RX1) (T := TX1) (N := 8) hx hb hz hX_X1 hown hK.1 hP 3 rfl rfl 3 (by decide) (hz _ z1_39) (fun _ h9 => h9) rfl dX1_become_40 ?_
  refine va_put (D := D) (ci := 1) (v := .int f_a1_lying) (ty := .int) (C := RX1) (T := TX1) (N := 8) hx hb hz hX_X1 tyX1 tyX1_ok nmX1 hown hK.1 hP hD hS 0 rfl rfl 3 (by decide) (hz _ z1_39) (fun _ h9 => h9) rfl (tyX1_ok 3 (by decide)) rfl rfl (Nat.le_of_ble_eq_true rfl) dX1_become_43 (fun H locs hP hD hS => ?_)
  have hP : va_P D vwCl (cw_X1_become cI h h_places h_creams ha1 ha1_places ha1_creams (va_cpy f_a1_places f_places (0 : Int32).toNatClampNeg (0 : Int32).toNatClampNeg (8 : Int32).toNatClampNeg) (va_cpy f_a1_creams f_creams (0 : Int32).toNatClampNeg (0 : Int32).toNatClampNeg (8 : Int32).toNatClampNeg) f_a1_present f_a1_lying f_his f_power f_spite f_hour f_a1_places f_a1_creams f_a1_present f_a1_lying f_a1_his f_a1_power f_a1_spite f_a1_hour) H := hP
  have hD : va_D A (cw_X1_become cI h h_places h_creams ha1 ha1_places ha1_creams (va_cpy f_a1_places f_places (0 : Int32).toNatClampNeg (0 : Int32).toNatClampNeg (8 : Int32).toNatClampNeg) (va_cpy f_a1_creams f_creams (0 : Int32).toNatClampNeg (0 : Int32).toNatClampNeg (8 : Int32).toNatClampNeg) f_a1_present f_a1_lying f_his f_power f_spite f_hour f_a1_places f_a1_creams f_a1_present f_a1_lying f_a1_his f_a1_power f_a1_spite f_a1_hour) := hD
  refine lv_aload_n hx hb dX1_become_46 rfl (lv_at hl 0 rfl) ?_
  refine lv_aload_n hx hb dX1_become_47 rfl (lv_at hl 1 rfl) ?_
  refine va_get (D := D) (ci := 1) (v := .int f_a1_his) (C := RX1) (T := TX1) (N := 8) hx hb hz hX_X1 hown hK.1 hP 3 rfl rfl 4 (by decide) (hz _ z1_40) (fun _ h9 => h9) rfl dX1_become_48 ?_
  refine va_put (D := D) (ci := 1) (v := .int f_a1_his) (ty := .int) (C := RX1) (T := TX1) (N := 8) hx hb hz hX_X1 tyX1 tyX1_ok nmX1 hown hK.1 hP hD hS 0 rfl rfl 4 (by decide) (hz _ z1_40) (fun _ h9 => h9) rfl (tyX1_ok 4 (by decide)) rfl rfl (Nat.le_of_ble_eq_true rfl) dX1_become_51 (fun H locs hP hD hS => ?_)
  have hP : va_P D vwCl (cw_X1_become cI h h_places h_creams ha1 ha1_places ha1_creams (va_cpy f_a1_places f_places (0 : Int32).toNatClampNeg (0 : Int32).toNatClampNeg (8 : Int32).toNatClampNeg) (va_cpy f_a1_creams f_creams (0 : Int32).toNatClampNeg (0 : Int32).toNatClampNeg (8 : Int32).toNatClampNeg) f_a1_present f_a1_lying f_a1_his f_power f_spite f_hour f_a1_places f_a1_creams f_a1_present f_a1_lying f_a1_his f_a1_power f_a1_spite f_a1_hour) H := hP
  have hD : va_D A (cw_X1_become cI h h_places h_creams ha1 ha1_places ha1_creams (va_cpy f_a1_places f_places (0 : Int32).toNatClampNeg (0 : Int32).toNatClampNeg (8 : Int32).toNatClampNeg) (va_cpy f_a1_creams f_creams (0 : Int32).toNatClampNeg (0 : Int32).toNatClampNeg (8 : Int32).toNatClampNeg) f_a1_present f_a1_lying f_a1_his f_power f_spite f_hour f_a1_places f_a1_creams f_a1_present f_a1_lying f_a1_his f_a1_power f_a1_spite f_a1_hour) := hD
  refine lv_aload_n hx hb dX1_become_54 rfl (lv_at hl 0 rfl) ?_
  refine lv_aload_n hx hb dX1_become_55 rfl (lv_at hl 1 rfl) ?_
  refine va_get (D := D) (ci := 1) (v := .int f_a1_power) (C := RX1) (T := TX1) (N := 8) hx hb hz hX_X1 hown hK.1 hP 3 rfl rfl 5 (by decide) (hz _ z1_42) (fun _ h9 => h9) rfl dX1_become_56 ?_
  refine va_put (D := D) (ci := 1) (v := .int f_a1_power) (ty := .int) (C := RX1) (T := TX1) (N := 8) hx hb hz hX_X1 tyX1 tyX1_ok nmX1 hown hK.1 hP hD hS 0 rfl rfl 5 (by decide) (hz _ z1_42) (fun _ h9 => h9) rfl (tyX1_ok 5 (by decide)) rfl rfl (Nat.le_of_ble_eq_true rfl) dX1_become_59 (fun H locs hP hD hS => ?_)
  have hP : va_P D vwCl (cw_X1_become cI h h_places h_creams ha1 ha1_places ha1_creams (va_cpy f_a1_places f_places (0 : Int32).toNatClampNeg (0 : Int32).toNatClampNeg (8 : Int32).toNatClampNeg) (va_cpy f_a1_creams f_creams (0 : Int32).toNatClampNeg (0 : Int32).toNatClampNeg (8 : Int32).toNatClampNeg) f_a1_present f_a1_lying f_a1_his f_a1_power f_spite f_hour f_a1_places f_a1_creams f_a1_present f_a1_lying f_a1_his f_a1_power f_a1_spite f_a1_hour) H := hP
  have hD : va_D A (cw_X1_become cI h h_places h_creams ha1 ha1_places ha1_creams (va_cpy f_a1_places f_places (0 : Int32).toNatClampNeg (0 : Int32).toNatClampNeg (8 : Int32).toNatClampNeg) (va_cpy f_a1_creams f_creams (0 : Int32).toNatClampNeg (0 : Int32).toNatClampNeg (8 : Int32).toNatClampNeg) f_a1_present f_a1_lying f_a1_his f_a1_power f_spite f_hour f_a1_places f_a1_creams f_a1_present f_a1_lying f_a1_his f_a1_power f_a1_spite f_a1_hour) := hD
  refine lv_aload_n hx hb dX1_become_62 rfl (lv_at hl 0 rfl) ?_
  refine lv_aload_n hx hb dX1_become_63 rfl (lv_at hl 1 rfl) ?_
  refine va_get (D := D) (ci := 1) (v := .int f_a1_spite) (C := RX1) (T := TX1) (N := 8) hx hb hz hX_X1 hown hK.1 hP 3 rfl rfl 6 (by decide) (hz _ z1_44) (fun _ h9 => h9) rfl dX1_become_64 ?_
  refine va_put (D := D) (ci := 1) (v := .int f_a1_spite) (ty := .int) (C := RX1) (T := TX1) (N := 8) hx hb hz hX_X1 tyX1 tyX1_ok nmX1 hown hK.1 hP hD hS 0 rfl rfl 6 (by decide) (hz _ z1_44) (fun _ h9 => h9) rfl (tyX1_ok 6 (by decide)) rfl rfl (Nat.le_of_ble_eq_true rfl) dX1_become_67 (fun H locs hP hD hS => ?_)
  have hP : va_P D vwCl (cw_X1_become cI h h_places h_creams ha1 ha1_places ha1_creams (va_cpy f_a1_places f_places (0 : Int32).toNatClampNeg (0 : Int32).toNatClampNeg (8 : Int32).toNatClampNeg) (va_cpy f_a1_creams f_creams (0 : Int32).toNatClampNeg (0 : Int32).toNatClampNeg (8 : Int32).toNatClampNeg) f_a1_present f_a1_lying f_a1_his f_a1_power f_a1_spite f_hour f_a1_places f_a1_creams f_a1_present f_a1_lying f_a1_his f_a1_power f_a1_spite f_a1_hour) H := hP
  have hD : va_D A (cw_X1_become cI h h_places h_creams ha1 ha1_places ha1_creams (va_cpy f_a1_places f_places (0 : Int32).toNatClampNeg (0 : Int32).toNatClampNeg (8 : Int32).toNatClampNeg) (va_cpy f_a1_creams f_creams (0 : Int32).toNatClampNeg (0 : Int32).toNatClampNeg (8 : Int32).toNatClampNeg) f_a1_present f_a1_lying f_a1_his f_a1_power f_a1_spite f_hour f_a1_places f_a1_creams f_a1_present f_a1_lying f_a1_his f_a1_power f_a1_spite f_a1_hour) := hD
  refine lv_aload_n hx hb dX1_become_70 rfl (lv_at hl 0 rfl) ?_
  refine lv_aload_n hx hb dX1_become_71 rfl (lv_at hl 1 rfl) ?_
  refine va_get (D := D) (ci := 1) (v := .int f_a1_hour) (C := RX1) (T := TX1) (N := 8) hx hb hz hX_X1 hown hK.1 hP 3 rfl rfl 7 (by decide) (hz _ z1_46) (fun _ h9 => h9) rfl dX1_become_72 ?_
  refine va_put (D := D) (ci := 1) (v := .int f_a1_hour) (ty := .int) (C := RX1) (T := TX1) (N := 8) hx hb hz hX_X1 tyX1 tyX1_ok nmX1 hown hK.1 hP hD hS 0 rfl rfl 7 (by decide) (hz _ z1_46) (fun _ h9 => h9) rfl (tyX1_ok 7 (by decide)) rfl rfl (Nat.le_of_ble_eq_true rfl) dX1_become_75 (fun H locs hP hD hS => ?_)
  have hP : va_P D vwCl (cw_X1_become cI h h_places h_creams ha1 ha1_places ha1_creams (va_cpy f_a1_places f_places (0 : Int32).toNatClampNeg (0 : Int32).toNatClampNeg (8 : Int32).toNatClampNeg) (va_cpy f_a1_creams f_creams (0 : Int32).toNatClampNeg (0 : Int32).toNatClampNeg (8 : Int32).toNatClampNeg) f_a1_present f_a1_lying f_a1_his f_a1_power f_a1_spite f_a1_hour f_a1_places f_a1_creams f_a1_present f_a1_lying f_a1_his f_a1_power f_a1_spite f_a1_hour) H := hP
  have hD : va_D A (cw_X1_become cI h h_places h_creams ha1 ha1_places ha1_creams (va_cpy f_a1_places f_places (0 : Int32).toNatClampNeg (0 : Int32).toNatClampNeg (8 : Int32).toNatClampNeg) (va_cpy f_a1_creams f_creams (0 : Int32).toNatClampNeg (0 : Int32).toNatClampNeg (8 : Int32).toNatClampNeg) f_a1_present f_a1_lying f_a1_his f_a1_power f_a1_spite f_a1_hour f_a1_places f_a1_creams f_a1_present f_a1_lying f_a1_his f_a1_power f_a1_spite f_a1_hour) := hD
  exact z_vret hx hb hr hlocks ((va_cpy f_a1_places f_places (0 : Int32).toNatClampNeg (0 : Int32).toNatClampNeg (8 : Int32).toNatClampNeg), (va_cpy f_a1_creams f_creams (0 : Int32).toNatClampNeg (0 : Int32).toNatClampNeg (8 : Int32).toNatClampNeg), f_a1_present, f_a1_lying, f_a1_his, f_a1_power, f_a1_spite, f_a1_hour) hw hP hS dX1_become_78
abbrev cw_X3_begin (cI : ClassId) (h h_court h_court_places h_court_creams ha1 ha1_places ha1_creams : Nat) (f_court_places : Nat → Int32) (f_court_creams : Nat → Int32) (f_court_present : Int32) (f_court_lying : Int32) (f_court_his : Int32) (f_court_power : Int32) (f_court_spite : Int32) (f_court_hour : Int32) (f_acts : Int32) (f_reason : Int32) (f_firstOffAct : Int32) (f_firstOffWitness : Int32) (f_a1_places : Nat → Int32) (f_a1_creams : Nat → Int32) (f_a1_present : Int32) (f_a1_lying : Int32) (f_a1_his : Int32) (f_a1_power : Int32) (f_a1_spite : Int32) (f_a1_hour : Int32) : va_W := [(h, .inr (3, [.ref h_court, .int f_acts, .int f_reason, .int f_firstOffAct, .int f_firstOffWitness])), (h_court, .inr (1, [.ref h_court_places, .ref h_court_creams, .int f_court_present, .int f_court_lying, .int f_court_his, .int f_court_power, .int f_court_spite, .int f_court_hour])), (h_court_places, .inl (cI, 8, .inl f_court_places)), (h_court_creams, .inl (cI, 8, .inl f_court_creams)), (ha1, .inr (1, [.ref ha1_places, .ref ha1_creams, .int f_a1_present, .int f_a1_lying, .int f_a1_his, .int f_a1_power, .int f_a1_spite, .int f_a1_hour])), (ha1_places, .inl (cI, 8, .inl f_a1_places)), (ha1_creams, .inl (cI, 8, .inl f_a1_creams))]
abbrev q_X3_begin (D : va_G) (cI : ClassId) (h h_court h_court_places h_court_creams ha1 ha1_places ha1_creams : Nat) (post : (Nat → Int32) → (Nat → Int32) → Int32 → Int32 → Int32 → Int32 → Int32 → Int32 → Int32 → Int32 → Int32 → Int32 → Prop) (f_a1_places : Nat → Int32) (f_a1_creams : Nat → Int32) (f_a1_present : Int32) (f_a1_lying : Int32) (f_a1_his : Int32) (f_a1_power : Int32) (f_a1_spite : Int32) (f_a1_hour : Int32) (A : Nat → Prop) : Array Value → State → Outcome → State → Prop := va_Qv (S := (Nat → Int32) × (Nat → Int32) × Int32 × Int32 × Int32 × Int32 × Int32 × Int32 × Int32 × Int32 × Int32 × Int32) (fun u => post u.1 u.2.1 u.2.2.1 u.2.2.2.1 u.2.2.2.2.1 u.2.2.2.2.2.1 u.2.2.2.2.2.2.1 u.2.2.2.2.2.2.2.1 u.2.2.2.2.2.2.2.2.1 u.2.2.2.2.2.2.2.2.2.1 u.2.2.2.2.2.2.2.2.2.2.1 u.2.2.2.2.2.2.2.2.2.2.2) (fun u t => va_P D vwCl (cw_X3_begin cI h h_court h_court_places h_court_creams ha1 ha1_places ha1_creams u.1 u.2.1 u.2.2.1 u.2.2.2.1 u.2.2.2.2.1 u.2.2.2.2.2.1 u.2.2.2.2.2.2.1 u.2.2.2.2.2.2.2.1 u.2.2.2.2.2.2.2.2.1 u.2.2.2.2.2.2.2.2.2.1 u.2.2.2.2.2.2.2.2.2.2.1 u.2.2.2.2.2.2.2.2.2.2.2 f_a1_places f_a1_creams f_a1_present f_a1_lying f_a1_his f_a1_power f_a1_spite f_a1_hour) t.heap) A
abbrev v_X3_begin : List Cond := .code yX3_begin cX3_begin 2 none :: zB
theorem hd_X3_begin : yX3_begin.cls = RX3 ∧ yX3_begin.cls ≠ "java/lang/invoke/MethodHandle" ∧ yX3_begin.cls ≠ "java/lang/invoke/VarHandle" ∧ (parseMethodDescriptor yX3_begin.desc).map (fun d => d.parameters.length) = some 1 := by decide +kernel
set_option maxHeartbeats 4000000 in
set_option maxRecDepth 100000 in
theorem c_X3_begin (l : Launch) (D : va_G) (cI cC cZ : ClassId) (h h_court h_court_places h_court_creams ha1 ha1_places ha1_creams : Nat) (f_court_places : Nat → Int32) (f_court_creams : Nat → Int32) (f_court_present : Int32) (f_court_lying : Int32) (f_court_his : Int32) (f_court_power : Int32) (f_court_spite : Int32) (f_court_hour : Int32) (f_acts : Int32) (f_reason : Int32) (f_firstOffAct : Int32) (f_firstOffWitness : Int32) (f_a1_places : Nat → Int32) (f_a1_creams : Nat → Int32) (f_a1_present : Int32) (f_a1_lying : Int32) (f_a1_his : Int32) (f_a1_power : Int32) (f_a1_spite : Int32) (f_a1_hour : Int32) (sz : Nat) (post : (Nat → Int32) → (Nat → Int32) → Int32 → Int32 → Int32 → Int32 → Int32 → Int32 → Int32 → Int32 → Int32 → Int32 → Prop) (hw : w_X3_begin post f_court_places f_court_creams f_court_present f_court_lying f_court_his f_court_power f_court_spite f_court_hour f_acts f_reason f_firstOffAct f_firstOffWitness f_a1_places f_a1_creams f_a1_present f_a1_lying f_a1_his f_a1_power f_a1_spite f_a1_hour) : Met l yX3_begin v_X3_begin ({ frames := 2, cells := 0, slots := 0, locals := 61 } : Room) (va_Pc [.ref h, .ref ha1] (zPre D (zT cI cC cZ) sz (cw_X3_begin cI h h_court h_court_places h_court_creams ha1 ha1_places ha1_creams f_court_places f_court_creams f_court_present f_court_lying f_court_his f_court_power f_court_spite f_court_hour f_acts f_reason f_firstOffAct f_firstOffWitness f_a1_places f_a1_creams f_a1_present f_a1_lying f_a1_his f_a1_power f_a1_spite f_a1_hour))) (q_X3_begin D cI h h_court h_court_places h_court_creams ha1 ha1_places ha1_creams post f_a1_places f_a1_creams f_a1_present f_a1_lying f_a1_his f_a1_power f_a1_spite f_a1_hour (va_A (cw_X3_begin cI h h_court h_court_places h_court_creams ha1 ha1_places ha1_creams f_court_places f_court_creams f_court_present f_court_lying f_court_his f_court_power f_court_spite f_court_hour f_acts f_reason f_firstOffAct f_firstOffWitness f_a1_places f_a1_creams f_a1_present f_a1_lying f_a1_his f_a1_power f_a1_spite f_a1_hour) sz)) 0 0 (va_A (cw_X3_begin cI h h_court h_court_places h_court_creams ha1 ha1_places ha1_creams f_court_places f_court_creams f_court_present f_court_lying f_court_his f_court_power f_court_spite f_court_hour f_acts f_reason f_firstOffAct f_firstOffWitness f_a1_places f_a1_creams f_a1_present f_a1_lying f_a1_his f_a1_power f_a1_spite f_a1_hour) sz) := by
  refine Met.ofW (cc := cX3_begin) (maxL := 2) (ret := none) (by decide) rfl ?_
  intro p e s m args below meth c s₁ B hml hv
  obtain ⟨rfl, hsz, hP, hK, hD0⟩ := hv
  subst hsz
  have hx := B.exec
  have hb := B.bytes
  have hr := B.returns
  have hz : ∀ w ∈ zB, w.before _ s = true := fun w h => atoms_spec (ws := v_X3_begin) B.pre w (List.mem_cons_of_mem _ h)
  have hown : s.vm.findClass RX3 = some m.cls := findClass_of_methodNamed B.named
  have hlocks := B.notSynchronized
  have hF : CallFix p m c cX3_begin 2 s (([.ref h, .ref ha1] : List Value).toArray) zB RX3 := ⟨hx, hb, hml, hown, hz⟩
  have hD := hD0.self (sz := s.heap.size)
  generalize hAe : va_A (cw_X3_begin cI h h_court h_court_places h_court_creams ha1 ha1_places ha1_creams f_court_places f_court_creams f_court_present f_court_lying f_court_his f_court_power f_court_spite f_court_hour f_acts f_reason f_firstOffAct f_firstOffWitness f_a1_places f_a1_creams f_a1_present f_a1_lying f_a1_his f_a1_power f_a1_spite f_a1_hour) s.heap.size = A at hD ⊢
  have hA : ∀ q : Nat, s.heap.size ≤ q → A q := fun q h => by rw [← hAe]; exact Or.inr h
  have hS : va_S A s.heap s.heap [] := va_S.rf
  have hP : va_P D vwCl (cw_X3_begin cI h h_court h_court_places h_court_creams ha1 ha1_places ha1_creams f_court_places f_court_creams f_court_present f_court_lying f_court_his f_court_power f_court_spite f_court_hour f_acts f_reason f_firstOffAct f_firstOffWitness f_a1_places f_a1_creams f_a1_present f_a1_lying f_a1_his f_a1_power f_a1_spite f_a1_hour) s.heap := hP
  have hl := lv_entry ([.ref h, .ref ha1]) (n := 2) (Nat.le_of_ble_eq_true rfl)
  rw [lg_entry_eq]
  generalize (lg_sl ([.ref h, .ref ha1]) ++ List.replicate (2 - (lg_sl ([.ref h, .ref ha1])).length) Slot.unset).toArray = ls at hl ⊢
  have hl : lv_has ls 2 [(0, .ref h), (1, .ref ha1)] := hl
  unfold w_X3_begin at hw
  refine lv_aload_n hx hb dX3_begin_0 rfl (lv_at hl 0 rfl) ?_
  refine va_get (D := D) (ci := 3) (v := .ref h_court) (C := RX3) (T := TX3) (N := 5) hx hb hz hX_X3 hown hK.1 hP 0 rfl rfl 0 (by decide) (hz _ z1_135) (fun _ h9 => h9) rfl dX3_begin_1 ?_
  refine lv_aload_n hx hb dX3_begin_4 rfl (lv_at hl 1 rfl) ?_
  refine z_rv (z_runV (As := [.ref ha1]) (rest := []) hF (c_X1_become l D cI cC cZ h_court h_court_places h_court_creams ha1 ha1_places ha1_creams f_court_places f_court_creams f_court_present f_court_lying f_court_his f_court_power f_court_spite f_court_hour f_a1_places f_a1_creams f_a1_present f_a1_lying f_a1_his f_a1_power f_a1_spite f_a1_hour _ _ hw) (cwV 1 hz (z_gV z2_65 z2_66 z2_67 z1_3 z2_68) rfl rfl rfl hd_X1_become ⟨Nat.le_of_ble_eq_true rfl, Nat.le_of_ble_eq_true rfl⟩) hK hP hD [1, 2, 3, 4, 5, 6] rfl rfl 1 1 rfl rfl rfl rfl hl.1 rfl (Nat.le_of_ble_eq_true rfl) dX3_begin_5 ⟨Nat.zero_le _, Nat.zero_le _⟩) hP hD hS hA [1, 2, 3, 4, 5, 6] rfl (fun _ => rfl) (fun u => cw_X3_begin cI h h_court h_court_places h_court_creams ha1 ha1_places ha1_creams u.1 u.2.1 u.2.2.1 u.2.2.2.1 u.2.2.2.2.1 u.2.2.2.2.2.1 u.2.2.2.2.2.2.1 u.2.2.2.2.2.2.2 f_acts f_reason f_firstOffAct f_firstOffWitness f_a1_places f_a1_creams f_a1_present f_a1_lying f_a1_his f_a1_power f_a1_spite f_a1_hour) (fun _ => rfl) (fun u5 H locs hw hP hD hS => ?_)
  obtain ⟨u5_0, u5_1, u5_2, u5_3, u5_4, u5_5, u5_6, u5_7⟩ := u5
  try dsimp only at hw
  have hP : va_P D vwCl (cw_X3_begin cI h h_court h_court_places h_court_creams ha1 ha1_places ha1_creams u5_0 u5_1 u5_2 u5_3 u5_4 u5_5 u5_6 u5_7 f_acts f_reason f_firstOffAct f_firstOffWitness f_a1_places f_a1_creams f_a1_present f_a1_lying f_a1_his f_a1_power f_a1_spite f_a1_hour) H := hP
  have hD : va_D A (cw_X3_begin cI h h_court h_court_places h_court_creams ha1 ha1_places ha1_creams u5_0 u5_1 u5_2 u5_3 u5_4 u5_5 u5_6 u5_7 f_acts f_reason f_firstOffAct f_firstOffWitness f_a1_places f_a1_creams f_a1_present f_a1_lying f_a1_his f_a1_power f_a1_spite f_a1_hour) := hD
  refine lv_aload_n hx hb dX3_begin_8 rfl (lv_at hl 0 rfl) ?_
  refine lv_iconst (v := (0 : Int32)) hx hb dX3_begin_9 (by decide) ?_
  refine va_put (D := D) (ci := 3) (v := .int (0 : Int32)) (ty := .int) (C := RX3) (T := TX3) (N := 5) hx hb hz hX_X3 tyX3 tyX3_ok nmX3 hown hK.1 hP hD hS 0 rfl rfl 1 (by decide) (hz _ z1_137) (fun _ h9 => h9) rfl (tyX3_ok 1 (by decide)) rfl rfl (Nat.le_of_ble_eq_true rfl) dX3_begin_10 (fun H locs hP hD hS => ?_)
  have hP : va_P D vwCl (cw_X3_begin cI h h_court h_court_places h_court_creams ha1 ha1_places ha1_creams u5_0 u5_1 u5_2 u5_3 u5_4 u5_5 u5_6 u5_7 (0 : Int32) f_reason f_firstOffAct f_firstOffWitness f_a1_places f_a1_creams f_a1_present f_a1_lying f_a1_his f_a1_power f_a1_spite f_a1_hour) H := hP
  have hD : va_D A (cw_X3_begin cI h h_court h_court_places h_court_creams ha1 ha1_places ha1_creams u5_0 u5_1 u5_2 u5_3 u5_4 u5_5 u5_6 u5_7 (0 : Int32) f_reason f_firstOffAct f_firstOffWitness f_a1_places f_a1_creams f_a1_present f_a1_lying f_a1_his f_a1_power f_a1_spite f_a1_hour) := hD
  refine lv_aload_n hx hb dX3_begin_13 rfl (lv_at hl 0 rfl) ?_
  refine lv_iconst (v := (0 : Int32)) hx hb dX3_begin_14 (by decide) ?_
  refine va_put (D := D) (ci := 3) (v := .int (0 : Int32)) (ty := .int) (C := RX3) (T := TX3) (N := 5) hx hb hz hX_X3 tyX3 tyX3_ok nmX3 hown hK.1 hP hD hS 0 rfl rfl 2 (by decide) (hz _ z1_139) (fun _ h9 => h9) rfl (tyX3_ok 2 (by decide)) rfl rfl (Nat.le_of_ble_eq_true rfl) dX3_begin_15 (fun H locs hP hD hS => ?_)
  have hP : va_P D vwCl (cw_X3_begin cI h h_court h_court_places h_court_creams ha1 ha1_places ha1_creams u5_0 u5_1 u5_2 u5_3 u5_4 u5_5 u5_6 u5_7 (0 : Int32) (0 : Int32) f_firstOffAct f_firstOffWitness f_a1_places f_a1_creams f_a1_present f_a1_lying f_a1_his f_a1_power f_a1_spite f_a1_hour) H := hP
  have hD : va_D A (cw_X3_begin cI h h_court h_court_places h_court_creams ha1 ha1_places ha1_creams u5_0 u5_1 u5_2 u5_3 u5_4 u5_5 u5_6 u5_7 (0 : Int32) (0 : Int32) f_firstOffAct f_firstOffWitness f_a1_places f_a1_creams f_a1_present f_a1_lying f_a1_his f_a1_power f_a1_spite f_a1_hour) := hD
  refine lv_aload_n hx hb dX3_begin_18 rfl (lv_at hl 0 rfl) ?_
  refine lv_bipush (v := (-6 : Int32)) hx hb dX3_begin_19 (by decide) ?_
  refine va_put (D := D) (ci := 3) (v := .int (-6 : Int32)) (ty := .int) (C := RX3) (T := TX3) (N := 5) hx hb hz hX_X3 tyX3 tyX3_ok nmX3 hown hK.1 hP hD hS 0 rfl rfl 3 (by decide) (hz _ z1_141) (fun _ h9 => h9) rfl (tyX3_ok 3 (by decide)) rfl rfl (Nat.le_of_ble_eq_true rfl) dX3_begin_21 (fun H locs hP hD hS => ?_)
  have hP : va_P D vwCl (cw_X3_begin cI h h_court h_court_places h_court_creams ha1 ha1_places ha1_creams u5_0 u5_1 u5_2 u5_3 u5_4 u5_5 u5_6 u5_7 (0 : Int32) (0 : Int32) (-6 : Int32) f_firstOffWitness f_a1_places f_a1_creams f_a1_present f_a1_lying f_a1_his f_a1_power f_a1_spite f_a1_hour) H := hP
  have hD : va_D A (cw_X3_begin cI h h_court h_court_places h_court_creams ha1 ha1_places ha1_creams u5_0 u5_1 u5_2 u5_3 u5_4 u5_5 u5_6 u5_7 (0 : Int32) (0 : Int32) (-6 : Int32) f_firstOffWitness f_a1_places f_a1_creams f_a1_present f_a1_lying f_a1_his f_a1_power f_a1_spite f_a1_hour) := hD
  refine lv_aload_n hx hb dX3_begin_24 rfl (lv_at hl 0 rfl) ?_
  refine lv_bipush (v := (-6 : Int32)) hx hb dX3_begin_25 (by decide) ?_
  refine va_put (D := D) (ci := 3) (v := .int (-6 : Int32)) (ty := .int) (C := RX3) (T := TX3) (N := 5) hx hb hz hX_X3 tyX3 tyX3_ok nmX3 hown hK.1 hP hD hS 0 rfl rfl 4 (by decide) (hz _ z1_143) (fun _ h9 => h9) rfl (tyX3_ok 4 (by decide)) rfl rfl (Nat.le_of_ble_eq_true rfl) dX3_begin_27 (fun H locs hP hD hS => ?_)
  have hP : va_P D vwCl (cw_X3_begin cI h h_court h_court_places h_court_creams ha1 ha1_places ha1_creams u5_0 u5_1 u5_2 u5_3 u5_4 u5_5 u5_6 u5_7 (0 : Int32) (0 : Int32) (-6 : Int32) (-6 : Int32) f_a1_places f_a1_creams f_a1_present f_a1_lying f_a1_his f_a1_power f_a1_spite f_a1_hour) H := hP
  have hD : va_D A (cw_X3_begin cI h h_court h_court_places h_court_creams ha1 ha1_places ha1_creams u5_0 u5_1 u5_2 u5_3 u5_4 u5_5 u5_6 u5_7 (0 : Int32) (0 : Int32) (-6 : Int32) (-6 : Int32) f_a1_places f_a1_creams f_a1_present f_a1_lying f_a1_his f_a1_power f_a1_spite f_a1_hour) := hD
  exact z_vret hx hb hr hlocks (u5_0, u5_1, u5_2, u5_3, u5_4, u5_5, u5_6, u5_7, (0 : Int32), (0 : Int32), (-6 : Int32), (-6 : Int32)) hw hP hS dX3_begin_30
