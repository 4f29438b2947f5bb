abbrev cw_X9_hourly (cI : ClassId) (h h_now h_places : Nat) (g_book g_ways g_milky g_sights g_sight g_signs g_pad g_offAt g_offWho g_reason g_acts g_enough g_rows g_counts g_pours g_image g_isKept : Value) (f_now : Nat → Int32) (f_places : Nat → Int32) (f_power : Int32) (f_spite : Int32) : va_W := [(h, .inr (9, [g_book, .ref h_now, .ref h_places, .int f_power, .int f_spite, g_ways, g_milky, g_sights, g_sight, g_signs, g_pad, g_offAt, g_offWho, g_reason, g_acts, g_enough, g_rows, g_counts, g_pours, g_image, g_isKept])), (h_now, .inl (cI, 12, .inl f_now)), (h_places, .inl (cI, 8, .inl f_places))]
abbrev q_X9_hourly (D : va_G) (cI : ClassId) (h h_now h_places : Nat) (g_book g_ways g_milky g_sights g_sight g_signs g_pad g_offAt g_offWho g_reason g_acts g_enough g_rows g_counts g_pours g_image g_isKept : Value) (post : Int32 → Prop) (f_now : Nat → Int32) (f_places : Nat → Int32) (f_power : Int32) (f_spite : Int32) (A : Nat → Prop) : Array Value → State → Outcome → State → Prop := va_Qi (S := Unit) (fun r _ => post r ) (fun _ t => va_P D vwCl (cw_X9_hourly cI h h_now h_places g_book g_ways g_milky g_sights g_sight g_signs g_pad g_offAt g_offWho g_reason g_acts g_enough g_rows g_counts g_pours g_image g_isKept f_now f_places f_power f_spite) t.heap) A
abbrev v_X9_hourly : List Cond := .code yX9_hourly cX9_hourly 3 (some .int) :: zB
theorem hd_X9_hourly : yX9_hourly.cls = RX9 ∧ yX9_hourly.cls ≠ "java/lang/invoke/MethodHandle" ∧ yX9_hourly.cls ≠ "java/lang/invoke/VarHandle" ∧ (parseMethodDescriptor yX9_hourly.desc).map (fun d => d.parameters.length) = some 1 := by decide +kernel
set_option maxHeartbeats 4000000 in
set_option maxRecDepth 100000 in
theorem c_X9_hourly (l : Launch) (D : va_G) (cI cC cZ : ClassId) (h h_now h_places : Nat) (g_book g_ways g_milky g_sights g_sight g_signs g_pad g_offAt g_offWho g_reason g_acts g_enough g_rows g_counts g_pours g_image g_isKept : Value) (f_now : Nat → Int32) (f_places : Nat → Int32) (f_power : Int32) (f_spite : Int32) (p1 : Int32) (sz : Nat) (post : Int32 → Prop) (hw : w_X9_hourly post f_now f_places f_power f_spite p1) : Met l yX9_hourly v_X9_hourly ({ frames := 1, cells := 0, slots := 0, locals := 21 } : Room) (va_Pc [.ref h, .int p1] (zPre D (zT cI cC cZ) sz (cw_X9_hourly cI h h_now h_places g_book g_ways g_milky g_sights g_sight g_signs g_pad g_offAt g_offWho g_reason g_acts g_enough g_rows g_counts g_pours g_image g_isKept f_now f_places f_power f_spite))) (q_X9_hourly D cI h h_now h_places g_book g_ways g_milky g_sights g_sight g_signs g_pad g_offAt g_offWho g_reason g_acts g_enough g_rows g_counts g_pours g_image g_isKept post f_now f_places f_power f_spite (va_A (cw_X9_hourly cI h h_now h_places g_book g_ways g_milky g_sights g_sight g_signs g_pad g_offAt g_offWho g_reason g_acts g_enough g_rows g_counts g_pours g_image g_isKept f_now f_places f_power f_spite) sz)) 0 0 (va_A (cw_X9_hourly cI h h_now h_places g_book g_ways g_milky g_sights g_sight g_signs g_pad g_offAt g_offWho g_reason g_acts g_enough g_rows g_counts g_pours g_image g_isKept f_now f_places f_power f_spite) sz) := by
  refine Met.ofW (cc := cX9_hourly) (maxL := 3) (ret := (some .int)) (by decide) rfl ?_
  intro p e s m args below meth c s₁ B hml hv
  obtain ⟨rfl, hsz, hP, hK, hD0⟩ := hv
  subst hsz
  have hx := B.exec
  have hb := B.bytes
  have hr := B.returns
  have hz : ∀ w ∈ zB, w.before _ s = true := fun w h => atoms_spec (ws := v_X9_hourly) B.pre w (List.mem_cons_of_mem _ h)
  have hown : s.vm.findClass RX9 = some m.cls := findClass_of_methodNamed B.named
  have hlocks := B.notSynchronized
  have hF : CallFix p m c cX9_hourly 3 s (([.ref h, .int p1] : List Value).toArray) zB RX9 := ⟨hx, hb, hml, hown, hz⟩
  have hD := hD0.self (sz := s.heap.size)
  generalize hAe : va_A (cw_X9_hourly cI h h_now h_places g_book g_ways g_milky g_sights g_sight g_signs g_pad g_offAt g_offWho g_reason g_acts g_enough g_rows g_counts g_pours g_image g_isKept f_now f_places f_power f_spite) s.heap.size = A at hD ⊢
  have hA : ∀ q : Nat, s.heap.size ≤ q → A q := fun q h => by rw [← hAe]; exact Or.inr h
  have hS : va_S A s.heap s.heap [] := va_S.rf
  have hP : va_P D vwCl (cw_X9_hourly cI h h_now h_places g_book g_ways g_milky g_sights g_sight g_signs g_pad g_offAt g_offWho g_reason g_acts g_enough g_rows g_counts g_pours g_image g_isKept f_now f_places f_power f_spite) s.heap := hP
  have hl := lv_entry ([.ref h, .int p1]) (n := 3) (Nat.le_of_ble_eq_true rfl)
  rw [lg_entry_eq]
  generalize (lg_sl ([.ref h, .int p1]) ++ List.replicate (3 - (lg_sl ([.ref h, .int p1])).length) Slot.unset).toArray = ls at hl ⊢
  have hl : lv_has ls 3 [(0, .ref h), (1, .int p1)] := hl
  have J45 : ∀ (s0 : Int32) (s1 : Int32) (H : Heap) (locs : List Loc) (ls : Array Slot) (hw : w_X9_hourly_B45 post f_now f_places f_power f_spite p1 s0 s1) (hP : va_P D vwCl (cw_X9_hourly cI h h_now h_places g_book g_ways g_milky g_sights g_sight g_signs g_pad g_offAt g_offWho g_reason g_acts g_enough g_rows g_counts g_pours g_image g_isKept f_now f_places f_power f_spite) H) (hD : va_D A (cw_X9_hourly cI h h_now h_places g_book g_ways g_milky g_sights g_sight g_signs g_pad g_offAt g_offWho g_reason g_acts g_enough g_rows g_counts g_pours g_image g_isKept f_now f_places f_power f_spite)) (hS : va_S A s.heap H locs) (hl : lv_has ls 3 []), W p l e (headSpec v_X9_hourly ({ frames := 1, cells := 0, slots := 0, locals := 21 } : Room)).room s m (([.ref h, .int p1] : List Value).toArray) below meth c H locs 0 0 (MQ below (q_X9_hourly D cI h h_now h_places g_book g_ways g_milky g_sights g_sight g_signs g_pad g_offAt g_offWho g_reason g_acts g_enough g_rows g_counts g_pours g_image g_isKept post f_now f_places f_power f_spite A) (([.ref h, .int p1] : List Value).toArray) s 0 0 A) (F0 m 45 ls [.int s1, .int s0]) := by
    intro s0 s1 H locs ls hw hP hD hS hl
    unfold w_X9_hourly_B45 at hw
    refine lv_iadd hx hb dX9_hourly_45 ?_
    exact z_iret hx hb hr hlocks () hw hP hS dX9_hourly_46
  unfold w_X9_hourly at hw
  refine lv_aload_n hx hb dX9_hourly_0 rfl (lv_at hl 0 rfl) ?_
  refine lv_iload_n hx hb dX9_hourly_1 rfl (lv_at hl 1 rfl) ?_
  refine z_ri (z_runV (As := [.int p1]) (rest := []) hF (c_X9_farFrom l D cI cC cZ h h_now h_places g_book (.int f_power) (.int f_spite) g_ways g_milky g_sights g_sight g_signs g_pad g_offAt g_offWho g_reason g_acts g_enough g_rows g_counts g_pours g_image g_isKept f_now f_places p1 _ _ hw) (cwV 1 hz (z_gV z4_53 z4_55 zp_22 z1_10 z4_56) rfl rfl rfl hd_X9_farFrom ⟨Nat.le_of_ble_eq_true rfl, Nat.le_of_ble_eq_true rfl⟩) hK hP hD [0, 1, 2] rfl rfl 0 9 rfl rfl rfl rfl hl.1 rfl (Nat.le_of_ble_eq_true rfl) dX9_hourly_2 ⟨Nat.zero_le _, Nat.zero_le _⟩) hP hD hS hA [0, 1, 2] rfl (fun _ => rfl) (fun _ => cw_X9_hourly cI h h_now h_places g_book g_ways g_milky g_sights g_sight g_signs g_pad g_offAt g_offWho g_reason g_acts g_enough g_rows g_counts g_pours g_image g_isKept f_now f_places f_power f_spite) (fun _ => rfl) (fun r2 u2 H locs hw hP hD hS => ?_)
  try dsimp only at hw
  refine lv_istore_n (lv' := [(2, .int r2), (0, .ref h), (1, .int p1)]) hx hb dX9_hourly_5 rfl hl (by decide) rfl (fun ls hl => ?_)
  refine lv_iload_n hx hb dX9_hourly_6 rfl (lv_at hl 0 rfl) ?_
  refine lv_iconst (v := (3 : Int32)) hx hb dX9_hourly_7 (by decide) ?_
  refine lv_icmp_le (tgt := 15) hx hb dX9_hourly_8 (by decide) (fun c8 => ?_) (fun c8 => ?_)
  · have hw := hw.1 c8
    refine lv_aload_n hx hb dX9_hourly_15 rfl (lv_at hl 1 rfl) ?_
    refine va_get (D := D) (ci := 9) (v := .int f_power) (C := RX9) (T := TX9) (N := 21) hx hb hz hX_X9 hown hK.1 hP 0 rfl rfl 3 (by decide) (hz _ z3_159) (fun _ h9 => h9) rfl dX9_hourly_16 ?_
    refine lv_iconst (v := (4 : Int32)) hx hb dX9_hourly_19 (by decide) ?_
    refine lv_iload_n hx hb dX9_hourly_20 rfl (lv_at hl 0 rfl) ?_
    refine lv_isub hx hb dX9_hourly_21 ?_
    refine lv_imul hx hb dX9_hourly_22 ?_
    refine lv_aload_n hx hb dX9_hourly_23 rfl (lv_at hl 1 rfl) ?_
    refine va_get (D := D) (ci := 9) (v := .ref h_now) (C := RX9) (T := TX9) (N := 21) hx hb hz hX_X9 hown hK.1 hP 0 rfl rfl 1 (by decide) (hz _ z3_157) (fun _ h9 => h9) rfl dX9_hourly_24 ?_
    refine lv_bipush (v := (9 : Int32)) hx hb dX9_hourly_27 (by decide) ?_
    refine va_iald hx hb hK.1 hP 1 0 rfl rfl (z_in rfl) dX9_hourly_29 ?_
    refine lv_iload_n hx hb dX9_hourly_30 rfl (lv_at hl 2 rfl) ?_
    refine z_ri (z_runS (As := [.int (f_now (9 : Int32).toNatClampNeg), .int p1]) (rest := [.int (f_power * ((4 : Int32) - r2))]) hF (c_X9_has l D cI cC cZ (f_now (9 : Int32).toNatClampNeg) p1 _ _ hw) (va_cwS 2 hz (z_gS z4_42 z4_43 z1_10 z4_44) rfl rfl rfl hd_X9_has ⟨Nat.le_of_ble_eq_true rfl, Nat.le_of_ble_eq_true rfl⟩) hK hP hD [] rfl rfl rfl hl.1 rfl (Nat.le_of_ble_eq_true rfl) dX9_hourly_31 ⟨Nat.zero_le _, Nat.zero_le _⟩) hP hD hS hA [] rfl (fun _ => rfl) (fun _ => cw_X9_hourly cI h h_now h_places g_book g_ways g_milky g_sights g_sight g_signs g_pad g_offAt g_offWho g_reason g_acts g_enough g_rows g_counts g_pours g_image g_isKept f_now f_places f_power f_spite) (fun _ => rfl) (fun r31 u31 H locs hw hP hD hS => ?_)
    obtain ⟨hn31, hw⟩ := hw
    try dsimp only at hw
    refine lv_if_eq (tgt := 44) hx hb dX9_hourly_34 (by decide) (fun c34 => ?_) (fun c34 => ?_)
    · have hw := hw.1 c34
      refine lv_iconst (v := (0 : Int32)) hx hb dX9_hourly_44 (by decide) ?_
      exact J45 (f_power * ((4 : Int32) - r2)) (0 : Int32) _ _ _ hw hP hD hS (lv_sub hl [] rfl)
    have hw := hw.2 c34
    refine lv_aload_n hx hb dX9_hourly_37 rfl (lv_at hl 1 rfl) ?_
    refine va_get (D := D) (ci := 9) (v := .int f_spite) (C := RX9) (T := TX9) (N := 21) hx hb hz hX_X9 hown hK.1 hP 0 rfl rfl 4 (by decide) (hz _ z3_160) (fun _ h9 => h9) rfl dX9_hourly_38 ?_
    refine lv_goto (tgt := 45) hx hb dX9_hourly_41 (by decide) ?_
    exact J45 (f_power * ((4 : Int32) - r2)) f_spite _ _ _ hw hP hD hS (lv_sub hl [] rfl)
  have hw := hw.2 c8
  refine lv_iconst (v := (0 : Int32)) hx hb dX9_hourly_11 (by decide) ?_
  refine lv_goto (tgt := 46) hx hb dX9_hourly_12 (by decide) ?_
  exact z_iret hx hb hr hlocks () hw hP hS dX9_hourly_46
abbrev cw_X9_endHour (cI : ClassId) (h h_now h_places : Nat) (g_book g_ways g_milky g_sights g_sight g_signs g_pad g_offAt g_offWho g_reason g_acts g_enough g_rows g_counts g_pours g_image g_isKept : Value) (f_now : Nat → Int32) (f_places : Nat → Int32) (f_power : Int32) (f_spite : Int32) : va_W := [(h, .inr (9, [g_book, .ref h_now, .ref h_places, .int f_power, .int f_spite, g_ways, g_milky, g_sights, g_sight, g_signs, g_pad, g_offAt, g_offWho, g_reason, g_acts, g_enough, g_rows, g_counts, g_pours, g_image, g_isKept])), (h_now, .inl (cI, 12, .inl f_now)), (h_places, .inl (cI, 8, .inl f_places))]
abbrev q_X9_endHour (D : va_G) (cI : ClassId) (h h_now h_places : Nat) (g_book g_ways g_milky g_sights g_sight g_signs g_pad g_offAt g_offWho g_reason g_acts g_enough g_rows g_counts g_pours g_image g_isKept : Value) (post : Int32 → (Nat → Int32) → Prop) (f_places : Nat → Int32) (f_power : Int32) (f_spite : Int32) (A : Nat → Prop) : Array Value → State → Outcome → State → Prop := va_Qi (S := (Nat → Int32)) (fun r u => post r u) (fun u t => va_P D vwCl (cw_X9_endHour cI h h_now h_places g_book g_ways g_milky g_sights g_sight g_signs g_pad g_offAt g_offWho g_reason g_acts g_enough g_rows g_counts g_pours g_image g_isKept u f_places f_power f_spite) t.heap) A
abbrev v_X9_endHour : List Cond := .code yX9_endHour cX9_endHour 2 (some .int) :: zB
theorem hd_X9_endHour : yX9_endHour.cls = RX9 ∧ yX9_endHour.cls ≠ "java/lang/invoke/MethodHandle" ∧ yX9_endHour.cls ≠ "java/lang/invoke/VarHandle" ∧ (parseMethodDescriptor yX9_endHour.desc).map (fun d => d.parameters.length) = some 0 := by decide +kernel
set_option maxHeartbeats 4000000 in
set_option maxRecDepth 100000 in
theorem c_X9_endHour (l : Launch) (D : va_G) (cI cC cZ : ClassId) (h h_now h_places : Nat) (g_book g_ways g_milky g_sights g_sight g_signs g_pad g_offAt g_offWho g_reason g_acts g_enough g_rows g_counts g_pours g_image g_isKept : Value) (f_now : Nat → Int32) (f_places : Nat → Int32) (f_power : Int32) (f_spite : Int32) (sz : Nat) (post : Int32 → (Nat → Int32) → Prop) (hw : w_X9_endHour post f_now f_places f_power f_spite) : Met l yX9_endHour v_X9_endHour ({ frames := 2, cells := 0, slots := 0, locals := 43 } : Room) (va_Pc [.ref h] (zPre D (zT cI cC cZ) sz (cw_X9_endHour cI h h_now h_places g_book g_ways g_milky g_sights g_sight g_signs g_pad g_offAt g_offWho g_reason g_acts g_enough g_rows g_counts g_pours g_image g_isKept f_now f_places f_power f_spite))) (q_X9_endHour D cI h h_now h_places g_book g_ways g_milky g_sights g_sight g_signs g_pad g_offAt g_offWho g_reason g_acts g_enough g_rows g_counts g_pours g_image g_isKept post f_places f_power f_spite (va_A (cw_X9_endHour cI h h_now h_places g_book g_ways g_milky g_sights g_sight g_signs g_pad g_offAt g_offWho g_reason g_acts g_enough g_rows g_counts g_pours g_image g_isKept f_now f_places f_power f_spite) sz)) 0 0 (va_A (cw_X9_endHour cI h h_now h_places g_book g_ways g_milky g_sights g_sight g_signs g_pad g_offAt g_offWho g_reason g_acts g_enough g_rows g_counts g_pours g_image g_isKept f_now f_places f_power f_spite) sz) := by
  refine Met.ofW (cc := cX9_endHour) (maxL := 2) (ret := (some .int)) (by decide) rfl ?_
  intro p e s m args below meth c s₁ B hml hv
  obtain ⟨rfl, hsz, hP, hK, hD0⟩ := hv
  subst hsz
  have hx := B.exec
  have hb := B.bytes
  have hr := B.returns
  have hz : ∀ w ∈ zB, w.before _ s = true := fun w h => atoms_spec (ws := v_X9_endHour) B.pre w (List.mem_cons_of_mem _ h)
  have hown : s.vm.findClass RX9 = some m.cls := findClass_of_methodNamed B.named
  have hlocks := B.notSynchronized
  have hF : CallFix p m c cX9_endHour 2 s (([.ref h] : List Value).toArray) zB RX9 := ⟨hx, hb, hml, hown, hz⟩
  have hD := hD0.self (sz := s.heap.size)
  generalize hAe : va_A (cw_X9_endHour cI h h_now h_places g_book g_ways g_milky g_sights g_sight g_signs g_pad g_offAt g_offWho g_reason g_acts g_enough g_rows g_counts g_pours g_image g_isKept f_now f_places f_power f_spite) s.heap.size = A at hD ⊢
  have hA : ∀ q : Nat, s.heap.size ≤ q → A q := fun q h => by rw [← hAe]; exact Or.inr h
  have hS : va_S A s.heap s.heap [] := va_S.rf
  have hP : va_P D vwCl (cw_X9_endHour cI h h_now h_places g_book g_ways g_milky g_sights g_sight g_signs g_pad g_offAt g_offWho g_reason g_acts g_enough g_rows g_counts g_pours g_image g_isKept f_now f_places f_power f_spite) s.heap := hP
  have hl := lv_entry ([.ref h]) (n := 2) (Nat.le_of_ble_eq_true rfl)
  rw [lg_entry_eq]
  generalize (lg_sl ([.ref h]) ++ List.replicate (2 - (lg_sl ([.ref h])).length) Slot.unset).toArray = ls at hl ⊢
  have hl : lv_has ls 2 [(0, .ref h)] := hl
  have L27 : ∀ (n27 : Nat) (f_now : Nat → Int32) (x1 : Int32) (H : Heap) (locs : List Loc) (ls : Array Slot) (hw : w_X9_endHour_B27 post f_places f_power f_spite n27 f_now x1) (hP : va_P D vwCl (cw_X9_endHour cI h h_now h_places g_book g_ways g_milky g_sights g_sight g_signs g_pad g_offAt g_offWho g_reason g_acts g_enough g_rows g_counts g_pours g_image g_isKept f_now f_places f_power f_spite) H) (hD : va_D A (cw_X9_endHour cI h h_now h_places g_book g_ways g_milky g_sights g_sight g_signs g_pad g_offAt g_offWho g_reason g_acts g_enough g_rows g_counts g_pours g_image g_isKept f_now f_places f_power f_spite)) (hS : va_S A s.heap H locs) (hl : lv_has ls 2 [(0, .ref h), (1, .int x1)]), W p l e (headSpec v_X9_endHour ({ frames := 2, cells := 0, slots := 0, locals := 43 } : Room)).room s m (([.ref h] : List Value).toArray) below meth c H locs 0 0 (MQ below (q_X9_endHour D cI h h_now h_places g_book g_ways g_milky g_sights g_sight g_signs g_pad g_offAt g_offWho g_reason g_acts g_enough g_rows g_counts g_pours g_image g_isKept post f_places f_power f_spite A) (([.ref h] : List Value).toArray) s 0 0 A) (F0 m 27 ls []) := by
    intro n27
    induction n27 with
    | zero => intro f_now x1 H locs ls hw; exact False.elim hw
    | succ n27 ih27 =>
      intro f_now x1 H locs ls hw hP hD hS hl
      unfold w_X9_endHour_B27 at hw
      refine lv_iload_n hx hb dX9_endHour_27 rfl (lv_at hl 1 rfl) ?_
      refine lv_bipush (v := (8 : Int32)) hx hb dX9_endHour_28 (by decide) ?_
      refine lv_icmp_ge (tgt := 57) hx hb dX9_endHour_30 (by decide) (fun c30 => ?_) (fun c30 => ?_)
      · have hw := hw.1 c30
        refine lv_iconst (v := (0 : Int32)) hx hb dX9_endHour_57 (by decide) ?_
        exact z_iret hx hb hr hlocks f_now hw hP hS dX9_endHour_58
      have hw := hw.2 c30
      refine lv_aload_n hx hb dX9_endHour_33 rfl (lv_at hl 0 rfl) ?_
      refine lv_iload_n hx hb dX9_endHour_34 rfl (lv_at hl 1 rfl) ?_
      refine z_ri (z_runV (As := [.int x1]) (rest := []) hF (c_X9_sits l D cI cC cZ h h_now g_book (.ref h_places) (.int f_power) (.int f_spite) g_ways g_milky g_sights g_sight g_signs g_pad g_offAt g_offWho g_reason g_acts g_enough g_rows g_counts g_pours g_image g_isKept f_now x1 _ _ hw) (cwV 1 hz (z_gV z4_38 z4_40 zp_19 z1_10 z4_41) rfl rfl rfl hd_X9_sits ⟨Nat.le_of_ble_eq_true rfl, Nat.le_of_ble_eq_true rfl⟩) hK hP hD [0, 1] rfl rfl 0 9 rfl rfl rfl rfl hl.1 rfl (Nat.le_of_ble_eq_true rfl) dX9_endHour_35 ⟨Nat.zero_le _, Nat.zero_le _⟩) hP hD hS hA [0, 1] rfl (fun _ => rfl) (fun _ => cw_X9_endHour cI h h_now h_places g_book g_ways g_milky g_sights g_sight g_signs g_pad g_offAt g_offWho g_reason g_acts g_enough g_rows g_counts g_pours g_image g_isKept f_now f_places f_power f_spite) (fun _ => rfl) (fun r35 u35 H locs hw hP hD hS => ?_)
      obtain ⟨hn35, hw⟩ := hw
      try dsimp only at hw
      refine lv_if_eq (tgt := 51) hx hb dX9_endHour_38 (by decide) (fun c38 => ?_) (fun c38 => ?_)
      · have hw := hw.1 c38
        refine lv_iinc (k := 1) (v := (x1 + 1)) (lv' := [(1, .int (x1 + 1)), (0, .ref h)]) hx hb dX9_endHour_51 hl rfl rfl (by decide) rfl (fun ls hl => ?_)
        refine lv_goto (tgt := 27) hx hb dX9_endHour_54 (by decide) ?_
        exact ih27 f_now (x1 + 1) _ _ _ hw hP hD hS (lv_sub hl [1, 0] rfl)
      have hw := hw.2 c38
      refine lv_aload_n hx hb dX9_endHour_41 rfl (lv_at hl 0 rfl) ?_
      refine lv_iload_n hx hb dX9_endHour_42 rfl (lv_at hl 1 rfl) ?_
      refine lv_aload_n hx hb dX9_endHour_43 rfl (lv_at hl 0 rfl) ?_
      refine lv_iload_n hx hb dX9_endHour_44 rfl (lv_at hl 1 rfl) ?_
      refine z_ri (z_runV (As := [.int x1]) (rest := [.int x1, .ref h]) hF (c_X9_hourly l D cI cC cZ h h_now h_places g_book g_ways g_milky g_sights g_sight g_signs g_pad g_offAt g_offWho g_reason g_acts g_enough g_rows g_counts g_pours g_image g_isKept f_now f_places f_power f_spite x1 _ _ hw) (cwV 1 hz (z_gV z4_49 z4_51 zp_21 z1_10 z4_52) rfl rfl rfl hd_X9_hourly ⟨Nat.le_of_ble_eq_true rfl, Nat.le_of_ble_eq_true rfl⟩) hK hP hD [0, 1, 2] rfl rfl 0 9 rfl rfl rfl rfl hl.1 rfl (Nat.le_of_ble_eq_true rfl) dX9_endHour_45 ⟨Nat.zero_le _, Nat.zero_le _⟩) hP hD hS hA [0, 1, 2] rfl (fun _ => rfl) (fun _ => cw_X9_endHour cI h h_now h_places g_book g_ways g_milky g_sights g_sight g_signs g_pad g_offAt g_offWho g_reason g_acts g_enough g_rows g_counts g_pours g_image g_isKept f_now f_places f_power f_spite) (fun _ => rfl) (fun r45 u45 H locs hw hP hD hS => ?_)
      try dsimp only at hw
      refine z_rv (z_runV (As := [.int x1, .int r45]) (rest := []) hF (c_X9_lose l D cI cC cZ h h_now g_book (.ref h_places) (.int f_power) (.int f_spite) g_ways g_milky g_sights g_sight g_signs g_pad g_offAt g_offWho g_reason g_acts g_enough g_rows g_counts g_pours g_image g_isKept f_now x1 r45 _ _ hw) (cwV 2 hz (z_gV z4_57 z4_59 zp_23 z1_10 z4_60) rfl rfl rfl hd_X9_lose ⟨Nat.le_of_ble_eq_true rfl, Nat.le_of_ble_eq_true rfl⟩) hK hP hD [0, 1] rfl rfl 0 9 rfl rfl rfl rfl hl.1 rfl (Nat.le_of_ble_eq_true rfl) dX9_endHour_48 ⟨Nat.zero_le _, Nat.zero_le _⟩) hP hD hS hA [0, 1] rfl (fun _ => rfl) (fun u => cw_X9_endHour cI h h_now h_places g_book g_ways g_milky g_sights g_sight g_signs g_pad g_offAt g_offWho g_reason g_acts g_enough g_rows g_counts g_pours g_image g_isKept u f_places f_power f_spite) (fun _ => rfl) (fun u48_0 H locs hw hP hD hS => ?_)
      try dsimp only at hw
      have hP : va_P D vwCl (cw_X9_endHour cI h h_now h_places g_book g_ways g_milky g_sights g_sight g_signs g_pad g_offAt g_offWho g_reason g_acts g_enough g_rows g_counts g_pours g_image g_isKept u48_0 f_places f_power f_spite) H := hP
      have hD : va_D A (cw_X9_endHour cI h h_now h_places g_book g_ways g_milky g_sights g_sight g_signs g_pad g_offAt g_offWho g_reason g_acts g_enough g_rows g_counts g_pours g_image g_isKept u48_0 f_places f_power f_spite) := hD
      refine lv_iinc (k := 1) (v := (x1 + 1)) (lv' := [(1, .int (x1 + 1)), (0, .ref h)]) hx hb dX9_endHour_51 hl rfl rfl (by decide) rfl (fun ls hl => ?_)
      refine lv_goto (tgt := 27) hx hb dX9_endHour_54 (by decide) ?_
      exact ih27 u48_0 (x1 + 1) _ _ _ hw hP hD hS (lv_sub hl [1, 0] rfl)
  unfold w_X9_endHour at hw
  refine lv_aload_n hx hb dX9_endHour_0 rfl (lv_at hl 0 rfl) ?_
  refine va_get (D := D) (ci := 9) (v := .ref h_now) (C := RX9) (T := TX9) (N := 21) hx hb hz hX_X9 hown hK.1 hP 0 rfl rfl 1 (by decide) (hz _ z3_157) (fun _ h9 => h9) rfl dX9_endHour_1 ?_
  refine lv_bipush (v := (11 : Int32)) hx hb dX9_endHour_4 (by decide) ?_
  refine va_iald hx hb hK.1 hP 1 0 rfl rfl (z_in rfl) dX9_endHour_6 ?_
  refine lv_bipush (v := (99 : Int32)) hx hb dX9_endHour_7 (by decide) ?_
  refine lv_icmp_ne (tgt := 14) hx hb dX9_endHour_9 (by decide) (fun c9 => ?_) (fun c9 => ?_)
  · have hw := hw.2 c9
    refine lv_aload_n hx hb dX9_endHour_14 rfl (lv_at hl 0 rfl) ?_
    refine va_get (D := D) (ci := 9) (v := .ref h_now) (C := RX9) (T := TX9) (N := 21) hx hb hz hX_X9 hown hK.1 hP 0 rfl rfl 1 (by decide) (hz _ z3_157) (fun _ h9 => h9) rfl dX9_endHour_15 ?_
    refine lv_bipush (v := (11 : Int32)) hx hb dX9_endHour_18 (by decide) ?_
    refine lv_dup2_11 hx hb dX9_endHour_20 rfl rfl ?_
    refine va_iald hx hb hK.1 hP 1 0 rfl rfl (z_in rfl) dX9_endHour_21 ?_
    refine lv_iconst (v := (1 : Int32)) hx hb dX9_endHour_22 (by decide) ?_
    refine lv_iadd hx hb dX9_endHour_23 ?_
    refine va_iast hx hb hK.1 hP hD hS 1 0 rfl rfl (z_in rfl) dX9_endHour_24 (fun H locs hP hD hS => ?_)
    have hP : va_P D vwCl (cw_X9_endHour cI h h_now h_places g_book g_ways g_milky g_sights g_sight g_signs g_pad g_offAt g_offWho g_reason g_acts g_enough g_rows g_counts g_pours g_image g_isKept (upd f_now (11 : Int32).toNatClampNeg ((f_now (11 : Int32).toNatClampNeg) + (1 : Int32))) f_places f_power f_spite) H := hP
    have hD : va_D A (cw_X9_endHour cI h h_now h_places g_book g_ways g_milky g_sights g_sight g_signs g_pad g_offAt g_offWho g_reason g_acts g_enough g_rows g_counts g_pours g_image g_isKept (upd f_now (11 : Int32).toNatClampNeg ((f_now (11 : Int32).toNatClampNeg) + (1 : Int32))) f_places f_power f_spite) := hD
    refine lv_iconst (v := (0 : Int32)) hx hb dX9_endHour_25 (by decide) ?_
    refine lv_istore_n (lv' := [(1, .int (0 : Int32)), (0, .ref h)]) hx hb dX9_endHour_26 rfl hl (by decide) rfl (fun ls hl => ?_)
    obtain ⟨n27, hw⟩ := hw
    exact L27 n27 (upd f_now (11 : Int32).toNatClampNeg ((f_now (11 : Int32).toNatClampNeg) + (1 : Int32))) (0 : Int32) _ _ _ hw hP hD hS (lv_sub hl [1, 0] rfl)
  have hw := hw.1 c9
  refine lv_iconst (v := (5 : Int32)) hx hb dX9_endHour_12 (by decide) ?_
  exact z_iret hx hb hr hlocks f_now hw hP hS dX9_endHour_13
abbrev cw_X9_witnessAct (cI : ClassId) (h h_now h_places : Nat) (g_book g_ways g_milky g_sights g_sight g_signs g_pad g_offAt g_offWho g_reason g_acts g_enough g_rows g_counts g_pours g_image g_isKept : Value) (f_now : Nat → Int32) (f_places : Nat → Int32) (f_power : Int32) (f_spite : Int32) : va_W := [(h, .inr (9, [g_book, .ref h_now, .ref h_places, .int f_power, .int f_spite, g_ways, g_milky, g_sights, g_sight, g_signs, g_pad, g_offAt, g_offWho, g_reason, g_acts, g_enough, g_rows, g_counts, g_pours, g_image, g_isKept])), (h_now, .inl (cI, 12, .inl f_now)), (h_places, .inl (cI, 8, .inl f_places))]
abbrev q_X9_witnessAct (D : va_G) (cI : ClassId) (h h_now h_places : Nat) (g_book g_ways g_milky g_sights g_sight g_signs g_pad g_offAt g_offWho g_reason g_acts g_enough g_rows g_counts g_pours g_image g_isKept : Value) (post : Int32 → (Nat → Int32) → Prop) (f_places : Nat → Int32) (f_power : Int32) (f_spite : Int32) (A : Nat → Prop) : Array Value → State → Outcome → State → Prop := va_Qi (S := (Nat → Int32)) (fun r u => post r u) (fun u t => va_P D vwCl (cw_X9_witnessAct cI h h_now h_places g_book g_ways g_milky g_sights g_sight g_signs g_pad g_offAt g_offWho g_reason g_acts g_enough g_rows g_counts g_pours g_image g_isKept u f_places f_power f_spite) t.heap) A
abbrev v_X9_witnessAct : List Cond := .code yX9_witnessAct cX9_witnessAct 3 (some .int) :: zB
theorem hd_X9_witnessAct : yX9_witnessAct.cls = RX9 ∧ yX9_witnessAct.cls ≠ "java/lang/invoke/MethodHandle" ∧ yX9_witnessAct.cls ≠ "java/lang/invoke/VarHandle" ∧ (parseMethodDescriptor yX9_witnessAct.desc).map (fun d => d.parameters.length) = some 2 := by decide +kernel
set_option maxHeartbeats 4000000 in
set_option maxRecDepth 100000 in
theorem c_X9_witnessAct (l : Launch) (D : va_G) (cI cC cZ : ClassId) (h h_now h_places : Nat) (g_book g_ways g_milky g_sights g_sight g_signs g_pad g_offAt g_offWho g_reason g_acts g_enough g_rows g_counts g_pours g_image g_isKept : Value) (f_now : Nat → Int32) (f_places : Nat → Int32) (f_power : Int32) (f_spite : Int32) (p1 : Int32) (p2 : Int32) (sz : Nat) (post : Int32 → (Nat → Int32) → Prop) (hw : w_X9_witnessAct post f_now f_places f_power f_spite p1 p2) : Met l yX9_witnessAct v_X9_witnessAct ({ frames := 3, cells := 0, slots := 0, locals := 64 } : Room) (va_Pc [.ref h, .int p1, .int p2] (zPre D (zT cI cC cZ) sz (cw_X9_witnessAct cI h h_now h_places g_book g_ways g_milky g_sights g_sight g_signs g_pad g_offAt g_offWho g_reason g_acts g_enough g_rows g_counts g_pours g_image g_isKept f_now f_places f_power f_spite))) (q_X9_witnessAct D cI h h_now h_places g_book g_ways g_milky g_sights g_sight g_signs g_pad g_offAt g_offWho g_reason g_acts g_enough g_rows g_counts g_pours g_image g_isKept post f_places f_power f_spite (va_A (cw_X9_witnessAct cI h h_now h_places g_book g_ways g_milky g_sights g_sight g_signs g_pad g_offAt g_offWho g_reason g_acts g_enough g_rows g_counts g_pours g_image g_isKept f_now f_places f_power f_spite) sz)) 0 0 (va_A (cw_X9_witnessAct cI h h_now h_places g_book g_ways g_milky g_sights g_sight g_signs g_pad g_offAt g_offWho g_reason g_acts g_enough g_rows g_counts g_pours g_image g_isKept f_now f_places f_power f_spite) sz) := by
  refine Met.ofW (cc := cX9_witnessAct) (maxL := 3) (ret := (some .int)) (by decide) rfl ?_
  intro p e s m args below meth c s₁ B hml hv
  obtain ⟨rfl, hsz, hP, hK, hD0⟩ := hv
  subst hsz
  have hx := B.exec
  have hb := B.bytes
  have hr := B.returns
  have hz : ∀ w ∈ zB, w.before _ s = true := fun w h => atoms_spec (ws := v_X9_witnessAct) B.pre w (List.mem_cons_of_mem _ h)
  have hown : s.vm.findClass RX9 = some m.cls := findClass_of_methodNamed B.named
  have hlocks := B.notSynchronized
  have hF : CallFix p m c cX9_witnessAct 3 s (([.ref h, .int p1, .int p2] : List Value).toArray) zB RX9 := ⟨hx, hb, hml, hown, hz⟩
  have hD := hD0.self (sz := s.heap.size)
  generalize hAe : va_A (cw_X9_witnessAct cI h h_now h_places g_book g_ways g_milky g_sights g_sight g_signs g_pad g_offAt g_offWho g_reason g_acts g_enough g_rows g_counts g_pours g_image g_isKept f_now f_places f_power f_spite) s.heap.size = A at hD ⊢
  have hA : ∀ q : Nat, s.heap.size ≤ q → A q := fun q h => by rw [← hAe]; exact Or.inr h
  have hS : va_S A s.heap s.heap [] := va_S.rf
  have hP : va_P D vwCl (cw_X9_witnessAct cI h h_now h_places g_book g_ways g_milky g_sights g_sight g_signs g_pad g_offAt g_offWho g_reason g_acts g_enough g_rows g_counts g_pours g_image g_isKept f_now f_places f_power f_spite) s.heap := hP
  have hl := lv_entry ([.ref h, .int p1, .int p2]) (n := 3) (Nat.le_of_ble_eq_true rfl)
  rw [lg_entry_eq]
  generalize (lg_sl ([.ref h, .int p1, .int p2]) ++ List.replicate (3 - (lg_sl ([.ref h, .int p1, .int p2])).length) Slot.unset).toArray = ls at hl ⊢
  have hl : lv_has ls 3 [(0, .ref h), (1, .int p1), (2, .int p2)] := hl
  unfold w_X9_witnessAct at hw
  refine lv_iload_n hx hb dX9_witnessAct_0 rfl (lv_at hl 2 rfl) ?_
  refine lv_bipush (v := (63 : Int32)) hx hb dX9_witnessAct_1 (by decide) ?_
  refine lv_icmp_ne (tgt := 14) hx hb dX9_witnessAct_3 (by decide) (fun c3 => ?_) (fun c3 => ?_)
  · have hw := hw.2 c3
    refine lv_iload_n hx hb dX9_witnessAct_14 rfl (lv_at hl 2 rfl) ?_
    refine lv_bipush (v := (61 : Int32)) hx hb dX9_witnessAct_15 (by decide) ?_
    refine lv_icmp_ne (tgt := 28) hx hb dX9_witnessAct_17 (by decide) (fun c17 => ?_) (fun c17 => ?_)
    · have hw := hw.2 c17
      refine lv_iload_n hx hb dX9_witnessAct_28 rfl (lv_at hl 2 rfl) ?_
      refine lv_bipush (v := (126 : Int32)) hx hb dX9_witnessAct_29 (by decide) ?_
      refine lv_icmp_ne (tgt := 42) hx hb dX9_witnessAct_31 (by decide) (fun c31 => ?_) (fun c31 => ?_)
      · have hw := hw.2 c31
        refine lv_aload_n hx hb dX9_witnessAct_42 rfl (lv_at hl 0 rfl) ?_
        refine lv_iload_n hx hb dX9_witnessAct_43 rfl (lv_at hl 1 rfl) ?_
        refine z_ri (z_runV (As := [.int p1]) (rest := []) hF (c_X9_letGo l D cI cC cZ h h_now g_book (.ref h_places) (.int f_power) (.int f_spite) g_ways g_milky g_sights g_sight g_signs g_pad g_offAt g_offWho g_reason g_acts g_enough g_rows g_counts g_pours g_image g_isKept f_now p1 _ _ hw) (cwV 1 hz (z_gV z4_81 z4_83 zp_29 z1_10 z4_84) rfl rfl rfl hd_X9_letGo ⟨Nat.le_of_ble_eq_true rfl, Nat.le_of_ble_eq_true rfl⟩) hK hP hD [0, 1] rfl rfl 0 9 rfl rfl rfl rfl hl.1 rfl (Nat.le_of_ble_eq_true rfl) dX9_witnessAct_44 ⟨Nat.zero_le _, Nat.zero_le _⟩) hP hD hS hA [0, 1] rfl (fun _ => rfl) (fun u => cw_X9_witnessAct cI h h_now h_places g_book g_ways g_milky g_sights g_sight g_signs g_pad g_offAt g_offWho g_reason g_acts g_enough g_rows g_counts g_pours g_image g_isKept u f_places f_power f_spite) (fun _ => rfl) (fun r44 u44_0 H locs hw hP hD hS => ?_)
        try dsimp only at hw
        have hP : va_P D vwCl (cw_X9_witnessAct cI h h_now h_places g_book g_ways g_milky g_sights g_sight g_signs g_pad g_offAt g_offWho g_reason g_acts g_enough g_rows g_counts g_pours g_image g_isKept u44_0 f_places f_power f_spite) H := hP
        have hD : va_D A (cw_X9_witnessAct cI h h_now h_places g_book g_ways g_milky g_sights g_sight g_signs g_pad g_offAt g_offWho g_reason g_acts g_enough g_rows g_counts g_pours g_image g_isKept u44_0 f_places f_power f_spite) := hD
        exact z_iret hx hb hr hlocks u44_0 hw hP hS dX9_witnessAct_47
      have hw := hw.1 c31
      refine lv_aload_n hx hb dX9_witnessAct_34 rfl (lv_at hl 0 rfl) ?_
      refine lv_iload_n hx hb dX9_witnessAct_35 rfl (lv_at hl 1 rfl) ?_
      refine z_ri (z_runV (As := [.int p1]) (rest := []) hF (c_X9_thinkAgain l D cI cC cZ h h_now g_book (.ref h_places) (.int f_power) (.int f_spite) g_ways g_milky g_sights g_sight g_signs g_pad g_offAt g_offWho g_reason g_acts g_enough g_rows g_counts g_pours g_image g_isKept f_now p1 _ _ hw) (cwV 1 hz (z_gV z4_77 z4_79 zp_28 z1_10 z4_80) rfl rfl rfl hd_X9_thinkAgain ⟨Nat.le_of_ble_eq_true rfl, Nat.le_of_ble_eq_true rfl⟩) hK hP hD [0, 1] rfl rfl 0 9 rfl rfl rfl rfl hl.1 rfl (Nat.le_of_ble_eq_true rfl) dX9_witnessAct_36 ⟨Nat.zero_le _, Nat.zero_le _⟩) hP hD hS hA [0, 1] rfl (fun _ => rfl) (fun u => cw_X9_witnessAct cI h h_now h_places g_book g_ways g_milky g_sights g_sight g_signs g_pad g_offAt g_offWho g_reason g_acts g_enough g_rows g_counts g_pours g_image g_isKept u f_places f_power f_spite) (fun _ => rfl) (fun r36 u36_0 H locs hw hP hD hS => ?_)
      try dsimp only at hw
      have hP : va_P D vwCl (cw_X9_witnessAct cI h h_now h_places g_book g_ways g_milky g_sights g_sight g_signs g_pad g_offAt g_offWho g_reason g_acts g_enough g_rows g_counts g_pours g_image g_isKept u36_0 f_places f_power f_spite) H := hP
      have hD : va_D A (cw_X9_witnessAct cI h h_now h_places g_book g_ways g_milky g_sights g_sight g_signs g_pad g_offAt g_offWho g_reason g_acts g_enough g_rows g_counts g_pours g_image g_isKept u36_0 f_places f_power f_spite) := hD
      refine lv_goto (tgt := 47) hx hb dX9_witnessAct_39 (by decide) ?_
      exact z_iret hx hb hr hlocks u36_0 hw hP hS dX9_witnessAct_47
    have hw := hw.1 c17
    refine lv_aload_n hx hb dX9_witnessAct_20 rfl (lv_at hl 0 rfl) ?_
    refine lv_iload_n hx hb dX9_witnessAct_21 rfl (lv_at hl 1 rfl) ?_
    refine z_ri (z_runV (As := [.int p1]) (rest := []) hF (c_X9_fill l D cI cC cZ h h_now g_book (.ref h_places) (.int f_power) (.int f_spite) g_ways g_milky g_sights g_sight g_signs g_pad g_offAt g_offWho g_reason g_acts g_enough g_rows g_counts g_pours g_image g_isKept f_now p1 _ _ hw) (cwV 1 hz (z_gV z4_73 z4_75 zp_27 z1_10 z4_76) rfl rfl rfl hd_X9_fill ⟨Nat.le_of_ble_eq_true rfl, Nat.le_of_ble_eq_true rfl⟩) hK hP hD [0, 1] rfl rfl 0 9 rfl rfl rfl rfl hl.1 rfl (Nat.le_of_ble_eq_true rfl) dX9_witnessAct_22 ⟨Nat.zero_le _, Nat.zero_le _⟩) hP hD hS hA [0, 1] rfl (fun _ => rfl) (fun u => cw_X9_witnessAct cI h h_now h_places g_book g_ways g_milky g_sights g_sight g_signs g_pad g_offAt g_offWho g_reason g_acts g_enough g_rows g_counts g_pours g_image g_isKept u f_places f_power f_spite) (fun _ => rfl) (fun r22 u22_0 H locs hw hP hD hS => ?_)
    try dsimp only at hw
    have hP : va_P D vwCl (cw_X9_witnessAct cI h h_now h_places g_book g_ways g_milky g_sights g_sight g_signs g_pad g_offAt g_offWho g_reason g_acts g_enough g_rows g_counts g_pours g_image g_isKept u22_0 f_places f_power f_spite) H := hP
    have hD : va_D A (cw_X9_witnessAct cI h h_now h_places g_book g_ways g_milky g_sights g_sight g_signs g_pad g_offAt g_offWho g_reason g_acts g_enough g_rows g_counts g_pours g_image g_isKept u22_0 f_places f_power f_spite) := hD
    refine lv_goto (tgt := 47) hx hb dX9_witnessAct_25 (by decide) ?_
    exact z_iret hx hb hr hlocks u22_0 hw hP hS dX9_witnessAct_47
  have hw := hw.1 c3
  refine lv_aload_n hx hb dX9_witnessAct_6 rfl (lv_at hl 0 rfl) ?_
  refine lv_iload_n hx hb dX9_witnessAct_7 rfl (lv_at hl 1 rfl) ?_
  refine z_ri (z_runV (As := [.int p1]) (rest := []) hF (c_X9_bend l D cI cC cZ h h_now h_places g_book g_ways g_milky g_sights g_sight g_signs g_pad g_offAt g_offWho g_reason g_acts g_enough g_rows g_counts g_pours g_image g_isKept f_now f_places f_power f_spite p1 _ _ hw) (cwV 1 hz (z_gV z4_69 z4_71 zp_26 z1_10 z4_72) rfl rfl rfl hd_X9_bend ⟨Nat.le_of_ble_eq_true rfl, Nat.le_of_ble_eq_true rfl⟩) hK hP hD [0, 1, 2] rfl rfl 0 9 rfl rfl rfl rfl hl.1 rfl (Nat.le_of_ble_eq_true rfl) dX9_witnessAct_8 ⟨Nat.zero_le _, Nat.zero_le _⟩) hP hD hS hA [0, 1, 2] rfl (fun _ => rfl) (fun u => cw_X9_witnessAct cI h h_now h_places g_book g_ways g_milky g_sights g_sight g_signs g_pad g_offAt g_offWho g_reason g_acts g_enough g_rows g_counts g_pours g_image g_isKept u f_places f_power f_spite) (fun _ => rfl) (fun r8 u8_0 H locs hw hP hD hS => ?_)
  try dsimp only at hw
  have hP : va_P D vwCl (cw_X9_witnessAct cI h h_now h_places g_book g_ways g_milky g_sights g_sight g_signs g_pad g_offAt g_offWho g_reason g_acts g_enough g_rows g_counts g_pours g_image g_isKept u8_0 f_places f_power f_spite) H := hP
  have hD : va_D A (cw_X9_witnessAct cI h h_now h_places g_book g_ways g_milky g_sights g_sight g_signs g_pad g_offAt g_offWho g_reason g_acts g_enough g_rows g_counts g_pours g_image g_isKept u8_0 f_places f_power f_spite) := hD
  refine lv_goto (tgt := 47) hx hb dX9_witnessAct_11 (by decide) ?_
  exact z_iret hx hb hr hlocks u8_0 hw hP hS dX9_witnessAct_47
abbrev cw_X9_goTerms (cI : ClassId) (h h_book h_now h_places h_pad : Nat) (g_ways g_milky g_sights g_sight g_enough g_rows g_counts g_pours g_image g_isKept : Value) (f_book : Nat → Int32) (f_now : Nat → Int32) (f_places : Nat → Int32) (f_power : Int32) (f_spite : Int32) (f_signs : Int32) (f_pad : Nat → Int32) (f_offAt : Int32) (f_offWho : Int32) (f_reason : Int32) (f_acts : Int32) : va_W := [(h, .inr (9, [.ref h_book, .ref h_now, .ref h_places, .int f_power, .int f_spite, g_ways, g_milky, g_sights, g_sight, .int f_signs, .ref h_pad, .int f_offAt, .int f_offWho, .int f_reason, .int f_acts, g_enough, g_rows, g_counts, g_pours, g_image, g_isKept])), (h_book, .inl (cI, 12, .inl f_book)), (h_now, .inl (cI, 12, .inl f_now)), (h_places, .inl (cI, 8, .inl f_places)), (h_pad, .inl (cI, 60, .inl f_pad))]
abbrev q_X9_goTerms (D : va_G) (cI : ClassId) (h h_book h_now h_places h_pad : Nat) (g_ways g_milky g_sights g_sight g_enough g_rows g_counts g_pours g_image g_isKept : Value) (post : Int32 → (Nat → Int32) → Int32 → Int32 → Int32 → Int32 → Prop) (f_book : Nat → Int32) (f_places : Nat → Int32) (f_power : Int32) (f_spite : Int32) (f_signs : Int32) (f_pad : Nat → Int32) (A : Nat → Prop) : Array Value → State → Outcome → State → Prop := va_Qi (S := (Nat → Int32) × Int32 × Int32 × Int32 × Int32) (fun r u => post r u.1 u.2.1 u.2.2.1 u.2.2.2.1 u.2.2.2.2) (fun u t => va_P D vwCl (cw_X9_goTerms cI h h_book h_now h_places h_pad g_ways g_milky g_sights g_sight g_enough g_rows g_counts g_pours g_image g_isKept f_book u.1 f_places f_power f_spite f_signs f_pad u.2.1 u.2.2.1 u.2.2.2.1 u.2.2.2.2) t.heap) A
abbrev v_X9_goTerms : List Cond := .code yX9_goTerms cX9_goTerms 6 (some .int) :: zB
theorem hd_X9_goTerms : yX9_goTerms.cls = RX9 ∧ yX9_goTerms.cls ≠ "java/lang/invoke/MethodHandle" ∧ yX9_goTerms.cls ≠ "java/lang/invoke/VarHandle" ∧ (parseMethodDescriptor yX9_goTerms.desc).map (fun d => d.parameters.length) = some 0 := by decide +kernel
set_option maxHeartbeats 4000000 in
set_option maxRecDepth 100000 in
theorem c_X9_goTerms (l : Launch) (D : va_G) (cI cC cZ : ClassId) (h h_book h_now h_places h_pad : Nat) (g_ways g_milky g_sights g_sight g_enough g_rows g_counts g_pours g_image g_isKept : Value) (f_book : Nat → Int32) (f_now : Nat → Int32) (f_places : Nat → Int32) (f_power : Int32) (f_spite : Int32) (f_signs : Int32) (f_pad : Nat → Int32) (f_offAt : Int32) (f_offWho : Int32) (f_reason : Int32) (f_acts : Int32) (sz : Nat) (post : Int32 → (Nat → Int32) → Int32 → Int32 → Int32 → Int32 → Prop) (hw : w_X9_goTerms post f_book f_now f_places f_power f_spite f_signs f_pad f_offAt f_offWho f_reason f_acts) : Met l yX9_goTerms v_X9_goTerms ({ frames := 4, cells := 0, slots := 0, locals := 86 } : Room) (va_Pc [.ref h] (zPre D (zT cI cC cZ) sz (cw_X9_goTerms cI h h_book h_now h_places h_pad g_ways g_milky g_sights g_sight g_enough g_rows g_counts g_pours g_image g_isKept f_book f_now f_places f_power f_spite f_signs f_pad f_offAt f_offWho f_reason f_acts))) (q_X9_goTerms D cI h h_book h_now h_places h_pad g_ways g_milky g_sights g_sight g_enough g_rows g_counts g_pours g_image g_isKept post f_book f_places f_power f_spite f_signs f_pad (va_A (cw_X9_goTerms cI h h_book h_now h_places h_pad g_ways g_milky g_sights g_sight g_enough g_rows g_counts g_pours g_image g_isKept f_book f_now f_places f_power f_spite f_signs f_pad f_offAt f_offWho f_reason f_acts) sz)) 0 0 (va_A (cw_X9_goTerms cI h h_book h_now h_places h_pad g_ways g_milky g_sights g_sight g_enough g_rows g_counts g_pours g_image g_isKept f_book f_now f_places f_power f_spite f_signs f_pad f_offAt f_offWho f_reason f_acts) sz) := by
  refine Met.ofW (cc := cX9_goTerms) (maxL := 6) (ret := (some .int)) (by decide) rfl ?_
  intro p e s m args below meth c s₁ B hml hv
  obtain ⟨rfl, hsz, hP, hK, hD0⟩ := hv
  subst hsz
  have hx := B.exec
  have hb := B.bytes
  have hr := B.returns
  have hz : ∀ w ∈ zB, w.before _ s = true := fun w h => atoms_spec (ws := v_X9_goTerms) B.pre w (List.mem_cons_of_mem _ h)
  have hown : s.vm.findClass RX9 = some m.cls := findClass_of_methodNamed B.named
  have hlocks := B.notSynchronized
  have hF : CallFix p m c cX9_goTerms 6 s (([.ref h] : List Value).toArray) zB RX9 := ⟨hx, hb, hml, hown, hz⟩
  have hD := hD0.self (sz := s.heap.size)
  generalize hAe : va_A (cw_X9_goTerms cI h h_book h_now h_places h_pad g_ways g_milky g_sights g_sight g_enough g_rows g_counts g_pours g_image g_isKept f_book f_now f_places f_power f_spite f_signs f_pad f_offAt f_offWho f_reason f_acts) s.heap.size = A at hD ⊢
  have hA : ∀ q : Nat, s.heap.size ≤ q → A q := fun q h => by rw [← hAe]; exact Or.inr h
  have hS : va_S A s.heap s.heap [] := va_S.rf
  have hP : va_P D vwCl (cw_X9_goTerms cI h h_book h_now h_places h_pad g_ways g_milky g_sights g_sight g_enough g_rows g_counts g_pours g_image g_isKept f_book f_now f_places f_power f_spite f_signs f_pad f_offAt f_offWho f_reason f_acts) s.heap := hP
  have hl := lv_entry ([.ref h]) (n := 6) (Nat.le_of_ble_eq_true rfl)
  rw [lg_entry_eq]
  generalize (lg_sl ([.ref h]) ++ List.replicate (6 - (lg_sl ([.ref h])).length) Slot.unset).toArray = ls at hl ⊢
  have hl : lv_has ls 6 [(0, .ref h)] := hl
  have L11 : ∀ (n11 : Nat) (f_now : Nat → Int32) (f_offAt : Int32) (f_offWho : Int32) (f_reason : Int32) (f_acts : Int32) (x1 : Int32) (H : Heap) (locs : List Loc) (ls : Array Slot) (hw : w_X9_goTerms_B11 post f_book f_places f_power f_spite f_signs f_pad n11 f_now f_offAt f_offWho f_reason f_acts x1) (hP : va_P D vwCl (cw_X9_goTerms cI h h_book h_now h_places h_pad g_ways g_milky g_sights g_sight g_enough g_rows g_counts g_pours g_image g_isKept f_book f_now f_places f_power f_spite f_signs f_pad f_offAt f_offWho f_reason f_acts) H) (hD : va_D A (cw_X9_goTerms cI h h_book h_now h_places h_pad g_ways g_milky g_sights g_sight g_enough g_rows g_counts g_pours g_image g_isKept f_book f_now f_places f_power f_spite f_signs f_pad f_offAt f_offWho f_reason f_acts)) (hS : va_S A s.heap H locs) (hl : lv_has ls 6 [(0, .ref h), (1, .int x1)]), W p l e (headSpec v_X9_goTerms ({ frames := 4, cells := 0, slots := 0, locals := 86 } : Room)).room s m (([.ref h] : List Value).toArray) below meth c H locs 0 0 (MQ below (q_X9_goTerms D cI h h_book h_now h_places h_pad g_ways g_milky g_sights g_sight g_enough g_rows g_counts g_pours g_image g_isKept post f_book f_places f_power f_spite f_signs f_pad A) (([.ref h] : List Value).toArray) s 0 0 A) (F0 m 11 ls []) := by
    intro n11
    induction n11 with
    | zero => intro f_now f_offAt f_offWho f_reason f_acts x1 H locs ls hw; exact False.elim hw
    | succ n11 ih11 =>
      have J181 : ∀ (f_now : Nat → Int32) (f_offAt : Int32) (f_offWho : Int32) (f_reason : Int32) (f_acts : Int32) (x1 : Int32) (H : Heap) (locs : List Loc) (ls : Array Slot) (hw : w_X9_goTerms_B181 post f_book f_places f_power f_spite f_signs f_pad (fun f_now f_offAt f_offWho f_reason f_acts x1 => w_X9_goTerms_B11 post f_book f_places f_power f_spite f_signs f_pad n11 f_now f_offAt f_offWho f_reason f_acts x1) f_now f_offAt f_offWho f_reason f_acts x1) (hP : va_P D vwCl (cw_X9_goTerms cI h h_book h_now h_places h_pad g_ways g_milky g_sights g_sight g_enough g_rows g_counts g_pours g_image g_isKept f_book f_now f_places f_power f_spite f_signs f_pad f_offAt f_offWho f_reason f_acts) H) (hD : va_D A (cw_X9_goTerms cI h h_book h_now h_places h_pad g_ways g_milky g_sights g_sight g_enough g_rows g_counts g_pours g_image g_isKept f_book f_now f_places f_power f_spite f_signs f_pad f_offAt f_offWho f_reason f_acts)) (hS : va_S A s.heap H locs) (hl : lv_has ls 6 [(0, .ref h), (1, .int x1)]), W p l e (headSpec v_X9_goTerms ({ frames := 4, cells := 0, slots := 0, locals := 86 } : Room)).room s m (([.ref h] : List Value).toArray) below meth c H locs 0 0 (MQ below (q_X9_goTerms D cI h h_book h_now h_places h_pad g_ways g_milky g_sights g_sight g_enough g_rows g_counts g_pours g_image g_isKept post f_book f_places f_power f_spite f_signs f_pad A) (([.ref h] : List Value).toArray) s 0 0 A) (F0 m 181 ls []) := by
        intro f_now f_offAt f_offWho f_reason f_acts x1 H locs ls hw hP hD hS hl
        unfold w_X9_goTerms_B181 at hw
        refine lv_aload_n hx hb dX9_goTerms_181 rfl (lv_at hl 0 rfl) ?_
        refine lv_dup hx hb dX9_goTerms_182 rfl ?_
        refine va_get (D := D) (ci := 9) (v := .int f_acts) (C := RX9) (T := TX9) (N := 21) hx hb hz hX_X9 hown hK.1 hP 0 rfl rfl 14 (by decide) (hz _ z3_170) (fun _ h9 => h9) rfl dX9_goTerms_183 ?_
        refine lv_iconst (v := (1 : Int32)) hx hb dX9_goTerms_186 (by decide) ?_
        refine lv_iadd hx hb dX9_goTerms_187 ?_
        refine va_put (D := D) (ci := 9) (v := .int (f_acts + (1 : Int32))) (ty := .int) (C := RX9) (T := TX9) (N := 21) hx hb hz hX_X9 tyX9 tyX9_ok nmX9 hown hK.1 hP hD hS 0 rfl rfl 14 (by decide) (hz _ z3_170) (fun _ h9 => h9) rfl (tyX9_ok 14 (by decide)) rfl rfl (Nat.le_of_ble_eq_true rfl) dX9_goTerms_188 (fun H locs hP hD hS => ?_)
        have hP : va_P D vwCl (cw_X9_goTerms cI h h_book h_now h_places h_pad g_ways g_milky g_sights g_sight g_enough g_rows g_counts g_pours g_image g_isKept f_book f_now f_places f_power f_spite f_signs f_pad f_offAt f_offWho f_reason (f_acts + (1 : Int32))) H := hP
        have hD : va_D A (cw_X9_goTerms cI h h_book h_now h_places h_pad g_ways g_milky g_sights g_sight g_enough g_rows g_counts g_pours g_image g_isKept f_book f_now f_places f_power f_spite f_signs f_pad f_offAt f_offWho f_reason (f_acts + (1 : Int32))) := hD
        refine lv_goto (tgt := 11) hx hb dX9_goTerms_191 (by decide) ?_
        exact ih11 f_now f_offAt f_offWho f_reason (f_acts + (1 : Int32)) x1 _ _ _ hw hP hD hS (lv_sub hl [0, 1] rfl)
      have L137 : ∀ (n137 : Nat) (f_now : Nat → Int32) (f_offAt : Int32) (f_offWho : Int32) (f_reason : Int32) (f_acts : Int32) (x1 : Int32) (x4 : Int32) (x5 : Int32) (H : Heap) (locs : List Loc) (ls : Array Slot) (hw : w_X9_goTerms_B137 post f_book f_places f_power f_spite f_signs f_pad (fun f_now f_offAt f_offWho f_reason f_acts x1 => w_X9_goTerms_B11 post f_book f_places f_power f_spite f_signs f_pad n11 f_now f_offAt f_offWho f_reason f_acts x1) n137 f_now f_offAt f_offWho f_reason f_acts x1 x4 x5) (hP : va_P D vwCl (cw_X9_goTerms cI h h_book h_now h_places h_pad g_ways g_milky g_sights g_sight g_enough g_rows g_counts g_pours g_image g_isKept f_book f_now f_places f_power f_spite f_signs f_pad f_offAt f_offWho f_reason f_acts) H) (hD : va_D A (cw_X9_goTerms cI h h_book h_now h_places h_pad g_ways g_milky g_sights g_sight g_enough g_rows g_counts g_pours g_image g_isKept f_book f_now f_places f_power f_spite f_signs f_pad f_offAt f_offWho f_reason f_acts)) (hS : va_S A s.heap H locs) (hl : lv_has ls 6 [(0, .ref h), (1, .int x1), (4, .int x4), (5, .int x5)]), W p l e (headSpec v_X9_goTerms ({ frames := 4, cells := 0, slots := 0, locals := 86 } : Room)).room s m (([.ref h] : List Value).toArray) below meth c H locs 0 0 (MQ below (q_X9_goTerms D cI h h_book h_now h_places h_pad g_ways g_milky g_sights g_sight g_enough g_rows g_counts g_pours g_image g_isKept post f_book f_places f_power f_spite f_signs f_pad A) (([.ref h] : List Value).toArray) s 0 0 A) (F0 m 137 ls []) := by
        intro n137
        induction n137 with
        | zero => intro f_now f_offAt f_offWho f_reason f_acts x1 x4 x5 H locs ls hw; exact False.elim hw
        | succ n137 ih137 =>
          intro f_now f_offAt f_offWho f_reason f_acts x1 x4 x5 H locs ls hw hP hD hS hl
          unfold w_X9_goTerms_B137 at hw
          refine lv_iload hx hb dX9_goTerms_137 (lv_at hl 3 rfl) ?_
          refine lv_bipush (v := (8 : Int32)) hx hb dX9_goTerms_139 (by decide) ?_
          refine lv_icmp_ge (tgt := 181) hx hb dX9_goTerms_141 (by decide) (fun c141 => ?_) (fun c141 => ?_)
          · have hw := hw.1 c141
            exact J181 f_now f_offAt f_offWho f_reason f_acts x1 _ _ _ hw hP hD hS (lv_sub hl [0, 1] rfl)
          have hw := hw.2 c141
          refine lv_aload_n hx hb dX9_goTerms_144 rfl (lv_at hl 0 rfl) ?_
          refine va_get (D := D) (ci := 9) (v := .int f_offAt) (C := RX9) (T := TX9) (N := 21) hx hb hz hX_X9 hown hK.1 hP 0 rfl rfl 11 (by decide) (hz _ z3_167) (fun _ h9 => h9) rfl dX9_goTerms_145 ?_
          refine lv_if_ge (tgt := 181) hx hb dX9_goTerms_148 (by decide) (fun c148 => ?_) (fun c148 => ?_)
          · have hw := hw.1 c148
            exact J181 f_now f_offAt f_offWho f_reason f_acts x1 _ _ _ hw hP hD hS (lv_sub hl [0, 1] rfl)
          have hw := hw.2 c148
          refine lv_iload hx hb dX9_goTerms_151 (lv_at hl 2 rfl) ?_
          refine lv_iload hx hb dX9_goTerms_153 (lv_at hl 3 rfl) ?_
          refine z_ri (z_runS (As := [.int x4, .int x5]) (rest := []) hF (c_X9_has l D cI cC cZ x4 x5 _ _ hw) (va_cwS 2 hz (z_gS z4_42 z4_43 z1_10 z4_44) rfl rfl rfl hd_X9_has ⟨Nat.le_of_ble_eq_true rfl, Nat.le_of_ble_eq_true rfl⟩) hK hP hD [] rfl rfl rfl hl.1 rfl (Nat.le_of_ble_eq_true rfl) dX9_goTerms_155 ⟨Nat.zero_le _, Nat.zero_le _⟩) hP hD hS hA [] rfl (fun _ => rfl) (fun _ => cw_X9_goTerms cI h h_book h_now h_places h_pad g_ways g_milky g_sights g_sight g_enough g_rows g_counts g_pours g_image g_isKept f_book f_now f_places f_power f_spite f_signs f_pad f_offAt f_offWho f_reason f_acts) (fun _ => rfl) (fun r155 u155 H locs hw hP hD hS => ?_)
          obtain ⟨hn155, hw⟩ := hw
          try dsimp only at hw
          refine lv_if_eq (tgt := 175) hx hb dX9_goTerms_158 (by decide) (fun c158 => ?_) (fun c158 => ?_)
          · have hw := hw.1 c158
            refine lv_iinc (k := 3) (v := (x5 + 1)) (lv' := [(5, .int (x5 + 1)), (0, .ref h), (1, .int x1), (4, .int x4)]) hx hb dX9_goTerms_175 hl rfl rfl (by decide) rfl (fun ls hl => ?_)
            refine lv_goto (tgt := 137) hx hb dX9_goTerms_178 (by decide) ?_
            exact ih137 f_now f_offAt f_offWho f_reason f_acts x1 x4 (x5 + 1) _ _ _ hw hP hD hS (lv_sub hl [1, 2, 3, 0] rfl)
          have hw := hw.2 c158
          refine lv_aload_n hx hb dX9_goTerms_161 rfl (lv_at hl 0 rfl) ?_
          refine lv_aload_n hx hb dX9_goTerms_162 rfl (lv_at hl 0 rfl) ?_
          refine va_get (D := D) (ci := 9) (v := .int f_acts) (C := RX9) (T := TX9) (N := 21) hx hb hz hX_X9 hown hK.1 hP 0 rfl rfl 14 (by decide) (hz _ z3_170) (fun _ h9 => h9) rfl dX9_goTerms_163 ?_
          refine va_put (D := D) (ci := 9) (v := .int f_acts) (ty := .int) (C := RX9) (T := TX9) (N := 21) hx hb hz hX_X9 tyX9 tyX9_ok nmX9 hown hK.1 hP hD hS 0 rfl rfl 11 (by decide) (hz _ z3_167) (fun _ h9 => h9) rfl (tyX9_ok 11 (by decide)) rfl rfl (Nat.le_of_ble_eq_true rfl) dX9_goTerms_166 (fun H locs hP hD hS => ?_)
          have hP : va_P D vwCl (cw_X9_goTerms cI h h_book h_now h_places h_pad g_ways g_milky g_sights g_sight g_enough g_rows g_counts g_pours g_image g_isKept f_book f_now f_places f_power f_spite f_signs f_pad f_acts f_offWho f_reason f_acts) H := hP
          have hD : va_D A (cw_X9_goTerms cI h h_book h_now h_places h_pad g_ways g_milky g_sights g_sight g_enough g_rows g_counts g_pours g_image g_isKept f_book f_now f_places f_power f_spite f_signs f_pad f_acts f_offWho f_reason f_acts) := hD
          refine lv_aload_n hx hb dX9_goTerms_169 rfl (lv_at hl 0 rfl) ?_
          refine lv_iload hx hb dX9_goTerms_170 (lv_at hl 3 rfl) ?_
          refine va_put (D := D) (ci := 9) (v := .int x5) (ty := .int) (C := RX9) (T := TX9) (N := 21) hx hb hz hX_X9 tyX9 tyX9_ok nmX9 hown hK.1 hP hD hS 0 rfl rfl 12 (by decide) (hz _ z3_168) (fun _ h9 => h9) rfl (tyX9_ok 12 (by decide)) rfl rfl (Nat.le_of_ble_eq_true rfl) dX9_goTerms_172 (fun H locs hP hD hS => ?_)
          have hP : va_P D vwCl (cw_X9_goTerms cI h h_book h_now h_places h_pad g_ways g_milky g_sights g_sight g_enough g_rows g_counts g_pours g_image g_isKept f_book f_now f_places f_power f_spite f_signs f_pad f_acts x5 f_reason f_acts) H := hP
          have hD : va_D A (cw_X9_goTerms cI h h_book h_now h_places h_pad g_ways g_milky g_sights g_sight g_enough g_rows g_counts g_pours g_image g_isKept f_book f_now f_places f_power f_spite f_signs f_pad f_acts x5 f_reason f_acts) := hD
          refine lv_iinc (k := 3) (v := (x5 + 1)) (lv' := [(5, .int (x5 + 1)), (0, .ref h), (1, .int x1), (4, .int x4)]) hx hb dX9_goTerms_175 hl rfl rfl (by decide) rfl (fun ls hl => ?_)
          refine lv_goto (tgt := 137) hx hb dX9_goTerms_178 (by decide) ?_
          exact ih137 f_now f_acts x5 f_reason f_acts x1 x4 (x5 + 1) _ _ _ hw hP hD hS (lv_sub hl [1, 2, 3, 0] rfl)
      have J112 : ∀ (f_now : Nat → Int32) (f_offAt : Int32) (f_offWho : Int32) (f_reason : Int32) (f_acts : Int32) (x1 : Int32) (x2 : Int32) (H : Heap) (locs : List Loc) (ls : Array Slot) (hw : w_X9_goTerms_B112 post f_book f_places f_power f_spite f_signs f_pad (fun f_now f_offAt f_offWho f_reason f_acts x1 => w_X9_goTerms_B11 post f_book f_places f_power f_spite f_signs f_pad n11 f_now f_offAt f_offWho f_reason f_acts x1) f_now f_offAt f_offWho f_reason f_acts x1 x2) (hP : va_P D vwCl (cw_X9_goTerms cI h h_book h_now h_places h_pad g_ways g_milky g_sights g_sight g_enough g_rows g_counts g_pours g_image g_isKept f_book f_now f_places f_power f_spite f_signs f_pad f_offAt f_offWho f_reason f_acts) H) (hD : va_D A (cw_X9_goTerms cI h h_book h_now h_places h_pad g_ways g_milky g_sights g_sight g_enough g_rows g_counts g_pours g_image g_isKept f_book f_now f_places f_power f_spite f_signs f_pad f_offAt f_offWho f_reason f_acts)) (hS : va_S A s.heap H locs) (hl : lv_has ls 6 [(0, .ref h), (1, .int x1), (2, .int x2)]), W p l e (headSpec v_X9_goTerms ({ frames := 4, cells := 0, slots := 0, locals := 86 } : Room)).room s m (([.ref h] : List Value).toArray) below meth c H locs 0 0 (MQ below (q_X9_goTerms D cI h h_book h_now h_places h_pad g_ways g_milky g_sights g_sight g_enough g_rows g_counts g_pours g_image g_isKept post f_book f_places f_power f_spite f_signs f_pad A) (([.ref h] : List Value).toArray) s 0 0 A) (F0 m 112 ls []) := by
        intro f_now f_offAt f_offWho f_reason f_acts x1 x2 H locs ls hw hP hD hS hl
        unfold w_X9_goTerms_B112 at hw
        refine lv_aload_n hx hb dX9_goTerms_112 rfl (lv_at hl 0 rfl) ?_
        refine va_get (D := D) (ci := 9) (v := .int f_reason) (C := RX9) (T := TX9) (N := 21) hx hb hz hX_X9 hown hK.1 hP 0 rfl rfl 13 (by decide) (hz _ z3_169) (fun _ h9 => h9) rfl dX9_goTerms_113 ?_
        refine lv_if_le (tgt := 124) hx hb dX9_goTerms_116 (by decide) (fun c116 => ?_) (fun c116 => ?_)
        · have hw := hw.1 c116
          refine lv_aload_n hx hb dX9_goTerms_124 rfl (lv_at hl 0 rfl) ?_
          refine z_ri (z_runV (As := []) (rest := []) hF (c_X9_offOnes l D cI cC cZ h h_now (.ref h_book) (.ref h_places) (.int f_power) (.int f_spite) g_ways g_milky g_sights g_sight (.int f_signs) (.ref h_pad) (.int f_offAt) (.int f_offWho) (.int f_reason) (.int f_acts) g_enough g_rows g_counts g_pours g_image g_isKept f_now _ _ hw) (cwV 0 hz (z_gV z4_34 z4_36 zp_18 z1_10 z4_37) rfl rfl rfl hd_X9_offOnes ⟨Nat.le_of_ble_eq_true rfl, Nat.le_of_ble_eq_true rfl⟩) hK hP hD [0, 2] rfl rfl 0 9 rfl rfl rfl rfl hl.1 rfl (Nat.le_of_ble_eq_true rfl) dX9_goTerms_125 ⟨Nat.zero_le _, Nat.zero_le _⟩) hP hD hS hA [0, 2] rfl (fun _ => rfl) (fun _ => cw_X9_goTerms cI h h_book h_now h_places h_pad g_ways g_milky g_sights g_sight g_enough g_rows g_counts g_pours g_image g_isKept f_book f_now f_places f_power f_spite f_signs f_pad f_offAt f_offWho f_reason f_acts) (fun _ => rfl) (fun r125 u125 H locs hw hP hD hS => ?_)
          try dsimp only at hw
          refine lv_iload_n hx hb dX9_goTerms_128 rfl (lv_at hl 2 rfl) ?_
          refine lv_iconst (v := (-1 : Int32)) hx hb dX9_goTerms_129 (by decide) ?_
          refine lv_ixor hx hb dX9_goTerms_130 ?_
          refine lv_iand hx hb dX9_goTerms_131 ?_
          refine lv_topi (fun y132 ey132 => ?_)
          have hw := hw y132 ey132
          refine lv_istore (lv' := [(4, .int y132), (0, .ref h), (1, .int x1), (2, .int x2)]) hx hb dX9_goTerms_132 hl (by decide) rfl (fun ls hl => ?_)
          refine lv_iconst (v := (0 : Int32)) hx hb dX9_goTerms_134 (by decide) ?_
          refine lv_istore (lv' := [(5, .int (0 : Int32)), (4, .int y132), (0, .ref h), (1, .int x1), (2, .int x2)]) hx hb dX9_goTerms_135 hl (by decide) rfl (fun ls hl => ?_)
          obtain ⟨n137, hw⟩ := hw
          exact L137 n137 f_now f_offAt f_offWho f_reason f_acts x1 y132 (0 : Int32) _ _ _ hw hP hD hS (lv_sub hl [2, 3, 1, 0] rfl)
        have hw := hw.2 c116
        refine lv_aload_n hx hb dX9_goTerms_119 rfl (lv_at hl 0 rfl) ?_
        refine va_get (D := D) (ci := 9) (v := .int f_acts) (C := RX9) (T := TX9) (N := 21) hx hb hz hX_X9 hown hK.1 hP 0 rfl rfl 14 (by decide) (hz _ z3_170) (fun _ h9 => h9) rfl dX9_goTerms_120 ?_
        exact z_iret hx hb hr hlocks (f_now, f_offAt, f_offWho, f_reason, f_acts) hw hP hS dX9_goTerms_123
      have J106 : ∀ (f_now : Nat → Int32) (f_offAt : Int32) (f_offWho : Int32) (f_reason : Int32) (f_acts : Int32) (x1 : Int32) (x2 : Int32) (s1 : Int32) (H : Heap) (locs : List Loc) (ls : Array Slot) (hw : w_X9_goTerms_B106 post f_book f_places f_power f_spite f_signs f_pad (fun f_now f_offAt f_offWho f_reason f_acts x1 => w_X9_goTerms_B11 post f_book f_places f_power f_spite f_signs f_pad n11 f_now f_offAt f_offWho f_reason f_acts x1) f_now f_offAt f_offWho f_reason f_acts x1 x2 s1) (hP : va_P D vwCl (cw_X9_goTerms cI h h_book h_now h_places h_pad g_ways g_milky g_sights g_sight g_enough g_rows g_counts g_pours g_image g_isKept f_book f_now f_places f_power f_spite f_signs f_pad f_offAt f_offWho f_reason f_acts) H) (hD : va_D A (cw_X9_goTerms cI h h_book h_now h_places h_pad g_ways g_milky g_sights g_sight g_enough g_rows g_counts g_pours g_image g_isKept f_book f_now f_places f_power f_spite f_signs f_pad f_offAt f_offWho f_reason f_acts)) (hS : va_S A s.heap H locs) (hl : lv_has ls 6 [(0, .ref h), (1, .int x1), (2, .int x2)]), W p l e (headSpec v_X9_goTerms ({ frames := 4, cells := 0, slots := 0, locals := 86 } : Room)).room s m (([.ref h] : List Value).toArray) below meth c H locs 0 0 (MQ below (q_X9_goTerms D cI h h_book h_now h_places h_pad g_ways g_milky g_sights g_sight g_enough g_rows g_counts g_pours g_image g_isKept post f_book f_places f_power f_spite f_signs f_pad A) (([.ref h] : List Value).toArray) s 0 0 A) (F0 m 106 ls [.int s1, .ref h]) := by
        intro f_now f_offAt f_offWho f_reason f_acts x1 x2 s1 H locs ls hw hP hD hS hl
        unfold w_X9_goTerms_B106 at hw
        refine va_put (D := D) (ci := 9) (v := .int s1) (ty := .int) (C := RX9) (T := TX9) (N := 21) hx hb hz hX_X9 tyX9 tyX9_ok nmX9 hown hK.1 hP hD hS 0 rfl rfl 13 (by decide) (hz _ z3_169) (fun _ h9 => h9) rfl (tyX9_ok 13 (by decide)) rfl rfl (Nat.le_of_ble_eq_true rfl) dX9_goTerms_106 (fun H locs hP hD hS => ?_)
        have hP : va_P D vwCl (cw_X9_goTerms cI h h_book h_now h_places h_pad g_ways g_milky g_sights g_sight g_enough g_rows g_counts g_pours g_image g_isKept f_book f_now f_places f_power f_spite f_signs f_pad f_offAt f_offWho s1 f_acts) H := hP
        have hD : va_D A (cw_X9_goTerms cI h h_book h_now h_places h_pad g_ways g_milky g_sights g_sight g_enough g_rows g_counts g_pours g_image g_isKept f_book f_now f_places f_power f_spite f_signs f_pad f_offAt f_offWho s1 f_acts) := hD
        refine lv_iinc (k := 1) (v := (x1 + 1)) (lv' := [(1, .int (x1 + 1)), (0, .ref h), (2, .int x2)]) hx hb dX9_goTerms_109 hl rfl rfl (by decide) rfl (fun ls hl => ?_)
        exact J112 f_now f_offAt f_offWho s1 f_acts (x1 + 1) x2 _ _ _ hw hP hD hS (lv_sub hl [1, 0, 2] rfl)
      intro f_now f_offAt f_offWho f_reason f_acts x1 H locs ls hw hP hD hS hl
      unfold w_X9_goTerms_B11 at hw
      refine lv_iload_n hx hb dX9_goTerms_11 rfl (lv_at hl 1 rfl) ?_
      refine lv_aload_n hx hb dX9_goTerms_12 rfl (lv_at hl 0 rfl) ?_
      refine va_get (D := D) (ci := 9) (v := .int f_signs) (C := RX9) (T := TX9) (N := 21) hx hb hz hX_X9 hown hK.1 hP 0 rfl rfl 9 (by decide) (hz _ z3_165) (fun _ h9 => h9) rfl dX9_goTerms_13 ?_
      refine lv_icmp_ge (tgt := 194) hx hb dX9_goTerms_16 (by decide) (fun c16 => ?_) (fun c16 => ?_)
      · have hw := hw.1 c16
        refine lv_bipush (v := (-6 : Int32)) hx hb dX9_goTerms_194 (by decide) ?_
        exact z_iret hx hb hr hlocks (f_now, f_offAt, f_offWho, f_reason, f_acts) hw hP hS dX9_goTerms_196
      have hw := hw.2 c16
      refine lv_aload_n hx hb dX9_goTerms_19 rfl (lv_at hl 0 rfl) ?_
      refine z_ri (z_runV (As := []) (rest := []) hF (c_X9_offOnes l D cI cC cZ h h_now (.ref h_book) (.ref h_places) (.int f_power) (.int f_spite) g_ways g_milky g_sights g_sight (.int f_signs) (.ref h_pad) (.int f_offAt) (.int f_offWho) (.int f_reason) (.int f_acts) g_enough g_rows g_counts g_pours g_image g_isKept f_now _ _ hw) (cwV 0 hz (z_gV z4_34 z4_36 zp_18 z1_10 z4_37) rfl rfl rfl hd_X9_offOnes ⟨Nat.le_of_ble_eq_true rfl, Nat.le_of_ble_eq_true rfl⟩) hK hP hD [0, 2] rfl rfl 0 9 rfl rfl rfl rfl hl.1 rfl (Nat.le_of_ble_eq_true rfl) dX9_goTerms_20 ⟨Nat.zero_le _, Nat.zero_le _⟩) hP hD hS hA [0, 2] rfl (fun _ => rfl) (fun _ => cw_X9_goTerms cI h h_book h_now h_places h_pad g_ways g_milky g_sights g_sight g_enough g_rows g_counts g_pours g_image g_isKept f_book f_now f_places f_power f_spite f_signs f_pad f_offAt f_offWho f_reason f_acts) (fun _ => rfl) (fun r20 u20 H locs hw hP hD hS => ?_)
      try dsimp only at hw
      refine lv_istore_n (lv' := [(2, .int r20), (0, .ref h), (1, .int x1)]) hx hb dX9_goTerms_23 rfl hl (by decide) rfl (fun ls hl => ?_)
      refine lv_aload_n hx hb dX9_goTerms_24 rfl (lv_at hl 1 rfl) ?_
      refine va_get (D := D) (ci := 9) (v := .ref h_pad) (C := RX9) (T := TX9) (N := 21) hx hb hz hX_X9 hown hK.1 hP 0 rfl rfl 10 (by decide) (hz _ z3_166) (fun _ h9 => h9) rfl dX9_goTerms_25 ?_
      refine lv_iload_n hx hb dX9_goTerms_28 rfl (lv_at hl 2 rfl) ?_
      obtain ⟨hi29, hw⟩ := hw
      refine va_iald hx hb hK.1 hP 4 0 rfl rfl hi29 dX9_goTerms_29 ?_
      refine lv_istore_n (lv' := [(3, .int (f_pad x1.toNatClampNeg)), (2, .int r20), (0, .ref h), (1, .int x1)]) hx hb dX9_goTerms_30 rfl hl (by decide) rfl (fun ls hl => ?_)
      refine lv_iinc (k := 3) (v := (x1 + 1)) (lv' := [(1, .int (x1 + 1)), (3, .int (f_pad x1.toNatClampNeg)), (2, .int r20), (0, .ref h)]) hx hb dX9_goTerms_31 hl rfl rfl (by decide) rfl (fun ls hl => ?_)
      refine lv_iload_n hx hb dX9_goTerms_34 rfl (lv_at hl 1 rfl) ?_
      refine lv_bipush (v := (46 : Int32)) hx hb dX9_goTerms_35 (by decide) ?_
      refine lv_icmp_ne (tgt := 51) hx hb dX9_goTerms_37 (by decide) (fun c37 => ?_) (fun c37 => ?_)
      · have hw := hw.2 c37
        refine lv_aload_n hx hb dX9_goTerms_51 rfl (lv_at hl 3 rfl) ?_
        refine va_get (D := D) (ci := 9) (v := .ref h_pad) (C := RX9) (T := TX9) (N := 21) hx hb hz hX_X9 hown hK.1 hP 0 rfl rfl 10 (by decide) (hz _ z3_166) (fun _ h9 => h9) rfl dX9_goTerms_52 ?_
        refine lv_iload_n hx hb dX9_goTerms_55 rfl (lv_at hl 0 rfl) ?_
        obtain ⟨hi56, hw⟩ := hw
        refine va_iald hx hb hK.1 hP 4 0 rfl rfl hi56 dX9_goTerms_56 ?_
        refine lv_topi (fun y57 ey57 => ?_)
        have hw := hw y57 ey57
        refine lv_istore (lv' := [(4, .int y57), (1, .int (x1 + 1)), (3, .int (f_pad x1.toNatClampNeg)), (2, .int r20), (0, .ref h)]) hx hb dX9_goTerms_57 hl (by decide) rfl (fun ls hl => ?_)
        refine lv_aload_n hx hb dX9_goTerms_59 rfl (lv_at hl 4 rfl) ?_
        refine lv_iload_n hx hb dX9_goTerms_60 rfl (lv_at hl 2 rfl) ?_
        refine lv_bipush (v := (62 : Int32)) hx hb dX9_goTerms_61 (by decide) ?_
        refine lv_icmp_ne (tgt := 78) hx hb dX9_goTerms_63 (by decide) (fun c63 => ?_) (fun c63 => ?_)
        · have hw := hw.2 c63
          refine lv_iload_n hx hb dX9_goTerms_78 rfl (lv_at hl 2 rfl) ?_
          refine lv_bipush (v := (60 : Int32)) hx hb dX9_goTerms_79 (by decide) ?_
          refine lv_icmp_ne (tgt := 96) hx hb dX9_goTerms_81 (by decide) (fun c81 => ?_) (fun c81 => ?_)
          · have hw := hw.2 c81
            refine lv_aload_n hx hb dX9_goTerms_96 rfl (lv_at hl 4 rfl) ?_
            refine lv_iload_n hx hb dX9_goTerms_97 rfl (lv_at hl 2 rfl) ?_
            refine lv_bipush (v := (65 : Int32)) hx hb dX9_goTerms_98 (by decide) ?_
            refine lv_isub hx hb dX9_goTerms_100 ?_
            refine lv_iload hx hb dX9_goTerms_101 (lv_at hl 0 rfl) ?_
            refine z_ri (z_runV (As := [.int ((f_pad x1.toNatClampNeg) - (65 : Int32)), .int y57]) (rest := [.ref h]) hF (c_X9_witnessAct l D cI cC cZ h h_now h_places (.ref h_book) g_ways g_milky g_sights g_sight (.int f_signs) (.ref h_pad) (.int f_offAt) (.int f_offWho) (.int f_reason) (.int f_acts) g_enough g_rows g_counts g_pours g_image g_isKept f_now f_places f_power f_spite ((f_pad x1.toNatClampNeg) - (65 : Int32)) y57 _ _ hw) (cwV 2 hz (z_gV z4_65 z4_67 zp_25 z1_10 z4_68) rfl rfl rfl hd_X9_witnessAct ⟨Nat.le_of_ble_eq_true rfl, Nat.le_of_ble_eq_true rfl⟩) hK hP hD [0, 2, 3] rfl rfl 0 9 rfl rfl rfl rfl hl.1 rfl (Nat.le_of_ble_eq_true rfl) dX9_goTerms_103 ⟨Nat.zero_le _, Nat.zero_le _⟩) hP hD hS hA [0, 2, 3] rfl (fun _ => rfl) (fun u => cw_X9_goTerms cI h h_book h_now h_places h_pad g_ways g_milky g_sights g_sight g_enough g_rows g_counts g_pours g_image g_isKept f_book u f_places f_power f_spite f_signs f_pad f_offAt f_offWho f_reason f_acts) (fun _ => rfl) (fun r103 u103_0 H locs hw hP hD hS => ?_)
            try dsimp only at hw
            have hP : va_P D vwCl (cw_X9_goTerms cI h h_book h_now h_places h_pad g_ways g_milky g_sights g_sight g_enough g_rows g_counts g_pours g_image g_isKept f_book u103_0 f_places f_power f_spite f_signs f_pad f_offAt f_offWho f_reason f_acts) H := hP
            have hD : va_D A (cw_X9_goTerms cI h h_book h_now h_places h_pad g_ways g_milky g_sights g_sight g_enough g_rows g_counts g_pours g_image g_isKept f_book u103_0 f_places f_power f_spite f_signs f_pad f_offAt f_offWho f_reason f_acts) := hD
            exact J106 u103_0 f_offAt f_offWho f_reason f_acts (x1 + 1) r20 r103 _ _ _ hw hP hD hS (lv_sub hl [4, 1, 3] rfl)
          have hw := hw.1 c81
          refine lv_aload_n hx hb dX9_goTerms_84 rfl (lv_at hl 4 rfl) ?_
          refine lv_bipush (v := (48 : Int32)) hx hb dX9_goTerms_85 (by decide) ?_
          refine lv_iload hx hb dX9_goTerms_87 (lv_at hl 0 rfl) ?_
          refine lv_isub hx hb dX9_goTerms_89 ?_
          refine z_ri (z_runV (As := [.int ((48 : Int32) - y57)]) (rest := [.ref h]) hF (c_X9_step l D cI cC cZ h h_now (.ref h_book) (.ref h_places) (.int f_power) (.int f_spite) g_ways g_milky g_sights g_sight (.int f_signs) (.ref h_pad) (.int f_offAt) (.int f_offWho) (.int f_reason) (.int f_acts) g_enough g_rows g_counts g_pours g_image g_isKept f_now ((48 : Int32) - y57) _ _ hw) (cwV 1 hz (z_gV z4_61 z4_63 zp_24 z1_10 z4_64) rfl rfl rfl hd_X9_step ⟨Nat.le_of_ble_eq_true rfl, Nat.le_of_ble_eq_true rfl⟩) hK hP hD [0, 2] rfl rfl 0 9 rfl rfl rfl rfl hl.1 rfl (Nat.le_of_ble_eq_true rfl) dX9_goTerms_90 ⟨Nat.zero_le _, Nat.zero_le _⟩) hP hD hS hA [0, 2] rfl (fun _ => rfl) (fun u => cw_X9_goTerms cI h h_book h_now h_places h_pad g_ways g_milky g_sights g_sight g_enough g_rows g_counts g_pours g_image g_isKept f_book u f_places f_power f_spite f_signs f_pad f_offAt f_offWho f_reason f_acts) (fun _ => rfl) (fun r90 u90_0 H locs hw hP hD hS => ?_)
          try dsimp only at hw
          have hP : va_P D vwCl (cw_X9_goTerms cI h h_book h_now h_places h_pad g_ways g_milky g_sights g_sight g_enough g_rows g_counts g_pours g_image g_isKept f_book u90_0 f_places f_power f_spite f_signs f_pad f_offAt f_offWho f_reason f_acts) H := hP
          have hD : va_D A (cw_X9_goTerms cI h h_book h_now h_places h_pad g_ways g_milky g_sights g_sight g_enough g_rows g_counts g_pours g_image g_isKept f_book u90_0 f_places f_power f_spite f_signs f_pad f_offAt f_offWho f_reason f_acts) := hD
          refine lv_goto (tgt := 106) hx hb dX9_goTerms_93 (by decide) ?_
          exact J106 u90_0 f_offAt f_offWho f_reason f_acts (x1 + 1) r20 r90 _ _ _ hw hP hD hS (lv_sub hl [4, 1, 3] rfl)
        have hw := hw.1 c63
        refine lv_aload_n hx hb dX9_goTerms_66 rfl (lv_at hl 4 rfl) ?_
        refine lv_iload hx hb dX9_goTerms_67 (lv_at hl 0 rfl) ?_
        refine lv_bipush (v := (48 : Int32)) hx hb dX9_goTerms_69 (by decide) ?_
        refine lv_isub hx hb dX9_goTerms_71 ?_
        refine z_ri (z_runV (As := [.int (y57 - (48 : Int32))]) (rest := [.ref h]) hF (c_X9_step l D cI cC cZ h h_now (.ref h_book) (.ref h_places) (.int f_power) (.int f_spite) g_ways g_milky g_sights g_sight (.int f_signs) (.ref h_pad) (.int f_offAt) (.int f_offWho) (.int f_reason) (.int f_acts) g_enough g_rows g_counts g_pours g_image g_isKept f_now (y57 - (48 : Int32)) _ _ hw) (cwV 1 hz (z_gV z4_61 z4_63 zp_24 z1_10 z4_64) rfl rfl rfl hd_X9_step ⟨Nat.le_of_ble_eq_true rfl, Nat.le_of_ble_eq_true rfl⟩) hK hP hD [0, 2] rfl rfl 0 9 rfl rfl rfl rfl hl.1 rfl (Nat.le_of_ble_eq_true rfl) dX9_goTerms_72 ⟨Nat.zero_le _, Nat.zero_le _⟩) hP hD hS hA [0, 2] rfl (fun _ => rfl) (fun u => cw_X9_goTerms cI h h_book h_now h_places h_pad g_ways g_milky g_sights g_sight g_enough g_rows g_counts g_pours g_image g_isKept f_book u f_places f_power f_spite f_signs f_pad f_offAt f_offWho f_reason f_acts) (fun _ => rfl) (fun r72 u72_0 H locs hw hP hD hS => ?_)
        try dsimp only at hw
        have hP : va_P D vwCl (cw_X9_goTerms cI h h_book h_now h_places h_pad g_ways g_milky g_sights g_sight g_enough g_rows g_counts g_pours g_image g_isKept f_book u72_0 f_places f_power f_spite f_signs f_pad f_offAt f_offWho f_reason f_acts) H := hP
        have hD : va_D A (cw_X9_goTerms cI h h_book h_now h_places h_pad g_ways g_milky g_sights g_sight g_enough g_rows g_counts g_pours g_image g_isKept f_book u72_0 f_places f_power f_spite f_signs f_pad f_offAt f_offWho f_reason f_acts) := hD
        refine lv_goto (tgt := 106) hx hb dX9_goTerms_75 (by decide) ?_
        exact J106 u72_0 f_offAt f_offWho f_reason f_acts (x1 + 1) r20 r72 _ _ _ hw hP hD hS (lv_sub hl [4, 1, 3] rfl)
      have hw := hw.1 c37
      refine lv_aload_n hx hb dX9_goTerms_40 rfl (lv_at hl 3 rfl) ?_
      refine lv_aload_n hx hb dX9_goTerms_41 rfl (lv_at hl 3 rfl) ?_
      refine z_ri (z_runV (As := []) (rest := [.ref h]) hF (c_X9_endHour l D cI cC cZ h h_now h_places (.ref h_book) g_ways g_milky g_sights g_sight (.int f_signs) (.ref h_pad) (.int f_offAt) (.int f_offWho) (.int f_reason) (.int f_acts) g_enough g_rows g_counts g_pours g_image g_isKept f_now f_places f_power f_spite _ _ hw) (cwV 0 hz (z_gV z4_45 z4_47 zp_20 z1_10 z4_48) rfl rfl rfl hd_X9_endHour ⟨Nat.le_of_ble_eq_true rfl, Nat.le_of_ble_eq_true rfl⟩) hK hP hD [0, 2, 3] rfl rfl 0 9 rfl rfl rfl rfl hl.1 rfl (Nat.le_of_ble_eq_true rfl) dX9_goTerms_42 ⟨Nat.zero_le _, Nat.zero_le _⟩) hP hD hS hA [0, 2, 3] rfl (fun _ => rfl) (fun u => cw_X9_goTerms cI h h_book h_now h_places h_pad g_ways g_milky g_sights g_sight g_enough g_rows g_counts g_pours g_image g_isKept f_book u f_places f_power f_spite f_signs f_pad f_offAt f_offWho f_reason f_acts) (fun _ => rfl) (fun r42 u42_0 H locs hw hP hD hS => ?_)
      try dsimp only at hw
      have hP : va_P D vwCl (cw_X9_goTerms cI h h_book h_now h_places h_pad g_ways g_milky g_sights g_sight g_enough g_rows g_counts g_pours g_image g_isKept f_book u42_0 f_places f_power f_spite f_signs f_pad f_offAt f_offWho f_reason f_acts) H := hP
      have hD : va_D A (cw_X9_goTerms cI h h_book h_now h_places h_pad g_ways g_milky g_sights g_sight g_enough g_rows g_counts g_pours g_image g_isKept f_book u42_0 f_places f_power f_spite f_signs f_pad f_offAt f_offWho f_reason f_acts) := hD
      refine va_put (D := D) (ci := 9) (v := .int r42) (ty := .int) (C := RX9) (T := TX9) (N := 21) hx hb hz hX_X9 tyX9 tyX9_ok nmX9 hown hK.1 hP hD hS 0 rfl rfl 13 (by decide) (hz _ z3_169) (fun _ h9 => h9) rfl (tyX9_ok 13 (by decide)) rfl rfl (Nat.le_of_ble_eq_true rfl) dX9_goTerms_45 (fun H locs hP hD hS => ?_)
      have hP : va_P D vwCl (cw_X9_goTerms cI h h_book h_now h_places h_pad g_ways g_milky g_sights g_sight g_enough g_rows g_counts g_pours g_image g_isKept f_book u42_0 f_places f_power f_spite f_signs f_pad f_offAt f_offWho r42 f_acts) H := hP
      have hD : va_D A (cw_X9_goTerms cI h h_book h_now h_places h_pad g_ways g_milky g_sights g_sight g_enough g_rows g_counts g_pours g_image g_isKept f_book u42_0 f_places f_power f_spite f_signs f_pad f_offAt f_offWho r42 f_acts) := hD
      refine lv_goto (tgt := 112) hx hb dX9_goTerms_48 (by decide) ?_
      exact J112 u42_0 f_offAt f_offWho r42 f_acts (x1 + 1) r20 _ _ _ hw hP hD hS (lv_sub hl [3, 0, 2] rfl)
  unfold w_X9_goTerms at hw
  refine lv_aload_n hx hb dX9_goTerms_0 rfl (lv_at hl 0 rfl) ?_
  refine z_rv (z_runV (As := []) (rest := []) hF (c_X9_asNow l D cI cC cZ h h_book h_now (.ref h_places) (.int f_power) (.int f_spite) g_ways g_milky g_sights g_sight (.int f_signs) (.ref h_pad) (.int f_reason) (.int f_acts) g_enough g_rows g_counts g_pours g_image g_isKept f_book f_now f_offAt f_offWho _ _ hw) (cwV 0 hz (z_gV z4_30 z4_32 zp_17 z1_10 z4_33) rfl rfl rfl hd_X9_asNow ⟨Nat.le_of_ble_eq_true rfl, Nat.le_of_ble_eq_true rfl⟩) hK hP hD [0, 1, 2] rfl rfl 0 9 rfl rfl rfl rfl hl.1 rfl (Nat.le_of_ble_eq_true rfl) dX9_goTerms_1 ⟨Nat.zero_le _, Nat.zero_le _⟩) hP hD hS hA [0, 1, 2] rfl (fun _ => rfl) (fun u => cw_X9_goTerms cI h h_book h_now h_places h_pad g_ways g_milky g_sights g_sight g_enough g_rows g_counts g_pours g_image g_isKept f_book u.1 f_places f_power f_spite f_signs f_pad u.2.1 u.2.2 f_reason f_acts) (fun _ => rfl) (fun u1 H locs hw hP hD hS => ?_)
  obtain ⟨u1_0, u1_1, u1_2⟩ := u1
  try dsimp only at hw
  have hP : va_P D vwCl (cw_X9_goTerms cI h h_book h_now h_places h_pad g_ways g_milky g_sights g_sight g_enough g_rows g_counts g_pours g_image g_isKept f_book u1_0 f_places f_power f_spite f_signs f_pad u1_1 u1_2 f_reason f_acts) H := hP
  have hD : va_D A (cw_X9_goTerms cI h h_book h_now h_places h_pad g_ways g_milky g_sights g_sight g_enough g_rows g_counts g_pours g_image g_isKept f_book u1_0 f_places f_power f_spite f_signs f_pad u1_1 u1_2 f_reason f_acts) := hD
  refine lv_aload_n hx hb dX9_goTerms_4 rfl (lv_at hl 0 rfl) ?_
  refine lv_iconst (v := (0 : Int32)) hx hb dX9_goTerms_5 (by decide) ?_
  refine va_put (D := D) (ci := 9) (v := .int (0 : Int32)) (ty := .int) (C := RX9) (T := TX9) (N := 21) hx hb hz hX_X9 tyX9 tyX9_ok nmX9 hown hK.1 hP hD hS 0 rfl rfl 14 (by decide) (hz _ z3_170) (fun _ h9 => h9) rfl (tyX9_ok 14 (by decide)) rfl rfl (Nat.le_of_ble_eq_true rfl) dX9_goTerms_6 (fun H locs hP hD hS => ?_)
  have hP : va_P D vwCl (cw_X9_goTerms cI h h_book h_now h_places h_pad g_ways g_milky g_sights g_sight g_enough g_rows g_counts g_pours g_image g_isKept f_book u1_0 f_places f_power f_spite f_signs f_pad u1_1 u1_2 f_reason (0 : Int32)) H := hP
  have hD : va_D A (cw_X9_goTerms cI h h_book h_now h_places h_pad g_ways g_milky g_sights g_sight g_enough g_rows g_counts g_pours g_image g_isKept f_book u1_0 f_places f_power f_spite f_signs f_pad u1_1 u1_2 f_reason (0 : Int32)) := hD
  refine lv_iconst (v := (0 : Int32)) hx hb dX9_goTerms_9 (by decide) ?_
  refine lv_istore_n (lv' := [(1, .int (0 : Int32)), (0, .ref h)]) hx hb dX9_goTerms_10 rfl hl (by decide) rfl (fun ls hl => ?_)
  obtain ⟨n11, hw⟩ := hw
  exact L11 n11 u1_0 u1_1 u1_2 f_reason (0 : Int32) (0 : Int32) _ _ _ hw hP hD hS (lv_sub hl [1, 0] rfl)
abbrev cw_X9_judge (cI : ClassId) (h h_book h_now h_places h_pad : Nat) (g_ways g_milky g_sights g_sight g_enough g_rows g_counts g_pours g_image g_isKept : Value) (f_book : Nat → Int32) (f_now : Nat → Int32) (f_places : Nat → Int32) (f_power : Int32) (f_spite : Int32) (f_signs : Int32) (f_pad : Nat → Int32) (f_offAt : Int32) (f_offWho : Int32) (f_reason : Int32) (f_acts : Int32) : va_W := [(h, .inr (9, [.ref h_book, .ref h_now, .ref h_places, .int f_power, .int f_spite, g_ways, g_milky, g_sights, g_sight, .int f_signs, .ref h_pad, .int f_offAt, .int f_offWho, .int f_reason, .int f_acts, g_enough, g_rows, g_counts, g_pours, g_image, g_isKept])), (h_book, .inl (cI, 12, .inl f_book)), (h_now, .inl (cI, 12, .inl f_now)), (h_places, .inl (cI, 8, .inl f_places)), (h_pad, .inl (cI, 60, .inl f_pad))]
abbrev q_X9_judge (D : va_G) (cI : ClassId) (h h_book h_now h_places h_pad : Nat) (g_ways g_milky g_sights g_sight g_enough g_rows g_counts g_pours g_image g_isKept : Value) (post : Int32 → (Nat → Int32) → Int32 → Int32 → Int32 → Int32 → Prop) (f_book : Nat → Int32) (f_places : Nat → Int32) (f_power : Int32) (f_spite : Int32) (f_signs : Int32) (f_pad : Nat → Int32) (A : Nat → Prop) : Array Value → State → Outcome → State → Prop := va_Qi (S := (Nat → Int32) × Int32 × Int32 × Int32 × Int32) (fun r u => post r u.1 u.2.1 u.2.2.1 u.2.2.2.1 u.2.2.2.2) (fun u t => va_P D vwCl (cw_X9_judge cI h h_book h_now h_places h_pad g_ways g_milky g_sights g_sight g_enough g_rows g_counts g_pours g_image g_isKept f_book u.1 f_places f_power f_spite f_signs f_pad u.2.1 u.2.2.1 u.2.2.2.1 u.2.2.2.2) t.heap) A
abbrev v_X9_judge : List Cond := .code yX9_judge cX9_judge 3 (some .int) :: zB
theorem hd_X9_judge : yX9_judge.cls = RX9 ∧ yX9_judge.cls ≠ "java/lang/invoke/MethodHandle" ∧ yX9_judge.cls ≠ "java/lang/invoke/VarHandle" ∧ (parseMethodDescriptor yX9_judge.desc).map (fun d => d.parameters.length) = some 1 := by decide +kernel
set_option maxHeartbeats 4000000 in
set_option maxRecDepth 100000 in
theorem c_X9_judge (l : Launch) (D : va_G) (cI cC cZ : ClassId) (h h_book h_now h_places h_pad : Nat) (g_ways g_milky g_sights g_sight g_enough g_rows g_counts g_pours g_image g_isKept : Value) (f_book : Nat → Int32) (f_now : Nat → Int32) (f_places : Nat → Int32) (f_power : Int32) (f_spite : Int32) (f_signs : Int32) (f_pad : Nat → Int32) (f_offAt : Int32) (f_offWho : Int32) (f_reason : Int32) (f_acts : Int32) (p1 : Int32) (sz : Nat) (post : Int32 → (Nat → Int32) → Int32 → Int32 → Int32 → Int32 → Prop) (hw : w_X9_judge post f_book f_now f_places f_power f_spite f_signs f_pad f_offAt f_offWho f_reason f_acts p1) : Met l yX9_judge v_X9_judge ({ frames := 5, cells := 0, slots := 0, locals := 111 } : Room) (va_Pc [.ref h, .int p1] (zPre D (zT cI cC cZ) sz (cw_X9_judge cI h h_book h_now h_places h_pad g_ways g_milky g_sights g_sight g_enough g_rows g_counts g_pours g_image g_isKept f_book f_now f_places f_power f_spite f_signs f_pad f_offAt f_offWho f_reason f_acts))) (q_X9_judge D cI h h_book h_now h_places h_pad g_ways g_milky g_sights g_sight g_enough g_rows g_counts g_pours g_image g_isKept post f_book f_places f_power f_spite f_signs f_pad (va_A (cw_X9_judge cI h h_book h_now h_places h_pad g_ways g_milky g_sights g_sight g_enough g_rows g_counts g_pours g_image g_isKept f_book f_now f_places f_power f_spite f_signs f_pad f_offAt f_offWho f_reason f_acts) sz)) 0 0 (va_A (cw_X9_judge cI h h_book h_now h_places h_pad g_ways g_milky g_sights g_sight g_enough g_rows g_counts g_pours g_image g_isKept f_book f_now f_places f_power f_spite f_signs f_pad f_offAt f_offWho f_reason f_acts) sz) := by
  refine Met.ofW (cc := cX9_judge) (maxL := 3) (ret := (some .int)) (by decide) rfl ?_
  intro p e s m args below meth c s₁ B hml hv
  obtain ⟨rfl, hsz, hP, hK, hD0⟩ := hv
  subst hsz
  have hx := B.exec
  have hb := B.bytes
  have hr := B.returns
  have hz : ∀ w ∈ zB, w.before _ s = true := fun w h => atoms_spec (ws := v_X9_judge) B.pre w (List.mem_cons_of_mem _ h)
  have hown : s.vm.findClass RX9 = some m.cls := findClass_of_methodNamed B.named
  have hlocks := B.notSynchronized
  have hF : CallFix p m c cX9_judge 3 s (([.ref h, .int p1] : List Value).toArray) zB RX9 := ⟨hx, hb, hml, hown, hz⟩
  have hD := hD0.self (sz := s.heap.size)
  generalize hAe : va_A (cw_X9_judge cI h h_book h_now h_places h_pad g_ways g_milky g_sights g_sight g_enough g_rows g_counts g_pours g_image g_isKept f_book f_now f_places f_power f_spite f_signs f_pad f_offAt f_offWho f_reason f_acts) s.heap.size = A at hD ⊢
  have hA : ∀ q : Nat, s.heap.size ≤ q → A q := fun q h => by rw [← hAe]; exact Or.inr h
  have hS : va_S A s.heap s.heap [] := va_S.rf
  have hP : va_P D vwCl (cw_X9_judge cI h h_book h_now h_places h_pad g_ways g_milky g_sights g_sight g_enough g_rows g_counts g_pours g_image g_isKept f_book f_now f_places f_power f_spite f_signs f_pad f_offAt f_offWho f_reason f_acts) s.heap := hP
  have hl := lv_entry ([.ref h, .int p1]) (n := 3) (Nat.le_of_ble_eq_true rfl)
  rw [lg_entry_eq]
  generalize (lg_sl ([.ref h, .int p1]) ++ List.replicate (3 - (lg_sl ([.ref h, .int p1])).length) Slot.unset).toArray = ls at hl ⊢
  have hl : lv_has ls 3 [(0, .ref h), (1, .int p1)] := hl
  have J35 : ∀ (f_now : Nat → Int32) (f_offAt : Int32) (f_offWho : Int32) (f_reason : Int32) (f_acts : Int32) (x2 : Int32) (H : Heap) (locs : List Loc) (ls : Array Slot) (hw : w_X9_judge_B35 post f_book f_places f_power f_spite f_signs f_pad p1 f_now f_offAt f_offWho f_reason f_acts x2) (hP : va_P D vwCl (cw_X9_judge cI h h_book h_now h_places h_pad g_ways g_milky g_sights g_sight g_enough g_rows g_counts g_pours g_image g_isKept f_book f_now f_places f_power f_spite f_signs f_pad f_offAt f_offWho f_reason f_acts) H) (hD : va_D A (cw_X9_judge cI h h_book h_now h_places h_pad g_ways g_milky g_sights g_sight g_enough g_rows g_counts g_pours g_image g_isKept f_book f_now f_places f_power f_spite f_signs f_pad f_offAt f_offWho f_reason f_acts)) (hS : va_S A s.heap H locs) (hl : lv_has ls 3 [(2, .int x2)]), W p l e (headSpec v_X9_judge ({ frames := 5, cells := 0, slots := 0, locals := 111 } : Room)).room s m (([.ref h, .int p1] : List Value).toArray) below meth c H locs 0 0 (MQ below (q_X9_judge D cI h h_book h_now h_places h_pad g_ways g_milky g_sights g_sight g_enough g_rows g_counts g_pours g_image g_isKept post f_book f_places f_power f_spite f_signs f_pad A) (([.ref h, .int p1] : List Value).toArray) s 0 0 A) (F0 m 35 ls []) := by
    intro f_now f_offAt f_offWho f_reason f_acts x2 H locs ls hw hP hD hS hl
    unfold w_X9_judge_B35 at hw
    refine lv_iload_n hx hb dX9_judge_35 rfl (lv_at hl 0 rfl) ?_
    refine lv_goto (tgt := 43) hx hb dX9_judge_36 (by decide) ?_
    exact z_iret hx hb hr hlocks (f_now, f_offAt, f_offWho, f_reason, f_acts) hw hP hS dX9_judge_43
  unfold w_X9_judge at hw
  refine lv_iload_n hx hb dX9_judge_0 rfl (lv_at hl 1 rfl) ?_
  refine lv_iconst (v := (0 : Int32)) hx hb dX9_judge_1 (by decide) ?_
  refine lv_iconst (v := (1 : Int32)) hx hb dX9_judge_2 (by decide) ?_
  refine z_ri (z_runS (As := [.int p1, .int (0 : Int32), .int (1 : Int32)]) (rest := []) hF (c_X9_in l D cI cC cZ p1 (0 : Int32) (1 : Int32) _ _ hw) (va_cwS 3 hz (z_gS z3_225 z3_226 z1_10 z3_227) rfl rfl rfl hd_X9_in ⟨Nat.le_of_ble_eq_true rfl, Nat.le_of_ble_eq_true rfl⟩) hK hP hD [] rfl rfl rfl hl.1 rfl (Nat.le_of_ble_eq_true rfl) dX9_judge_3 ⟨Nat.zero_le _, Nat.zero_le _⟩) hP hD hS hA [] rfl (fun _ => rfl) (fun _ => cw_X9_judge cI h h_book h_now h_places h_pad g_ways g_milky g_sights g_sight g_enough g_rows g_counts g_pours g_image g_isKept f_book f_now f_places f_power f_spite f_signs f_pad f_offAt f_offWho f_reason f_acts) (fun _ => rfl) (fun r3 u3 H locs hw hP hD hS => ?_)
  obtain ⟨hn3, hw⟩ := hw
  try dsimp only at hw
  refine lv_if_ne (tgt := 12) hx hb dX9_judge_6 (by decide) (fun c6 => ?_) (fun c6 => ?_)
  · have hw := hw.2 c6
    refine lv_aload_n hx hb dX9_judge_12 rfl (lv_at hl 0 rfl) ?_
    refine z_ri (z_runV (As := []) (rest := []) hF (c_X9_faultOf l D cI cC cZ h h_pad (.ref h_book) (.ref h_now) (.ref h_places) (.int f_power) (.int f_spite) g_ways g_milky g_sights g_sight (.int f_offAt) (.int f_offWho) (.int f_reason) (.int f_acts) g_enough g_rows g_counts g_pours g_image g_isKept f_signs f_pad _ _ hw) (cwV 0 hz (z_gV z4_18 z4_20 zp_15 z1_10 z4_21) rfl rfl rfl hd_X9_faultOf ⟨Nat.le_of_ble_eq_true rfl, Nat.le_of_ble_eq_true rfl⟩) hK hP hD [0, 4] rfl rfl 0 9 rfl rfl rfl rfl hl.1 rfl (Nat.le_of_ble_eq_true rfl) dX9_judge_13 ⟨Nat.zero_le _, Nat.zero_le _⟩) hP hD hS hA [0, 4] rfl (fun _ => rfl) (fun _ => cw_X9_judge cI h h_book h_now h_places h_pad g_ways g_milky g_sights g_sight g_enough g_rows g_counts g_pours g_image g_isKept f_book f_now f_places f_power f_spite f_signs f_pad f_offAt f_offWho f_reason f_acts) (fun _ => rfl) (fun r13 u13 H locs hw hP hD hS => ?_)
    try dsimp only at hw
    refine lv_if_lt (tgt := 22) hx hb dX9_judge_16 (by decide) (fun c16 => ?_) (fun c16 => ?_)
    · have hw := hw.1 c16
      refine lv_aload_n hx hb dX9_judge_22 rfl (lv_at hl 0 rfl) ?_
      refine z_ri (z_runV (As := []) (rest := []) hF (c_X9_goTerms l D cI cC cZ h h_book h_now h_places h_pad g_ways g_milky g_sights g_sight g_enough g_rows g_counts g_pours g_image g_isKept f_book f_now f_places f_power f_spite f_signs f_pad f_offAt f_offWho f_reason f_acts _ _ hw) (cwV 0 hz (z_gV z4_26 z4_28 zp_16 z1_10 z4_29) rfl rfl rfl hd_X9_goTerms ⟨Nat.le_of_ble_eq_true rfl, Nat.le_of_ble_eq_true rfl⟩) hK hP hD [0, 1, 2, 3, 4] rfl rfl 0 9 rfl rfl rfl rfl hl.1 rfl (Nat.le_of_ble_eq_true rfl) dX9_judge_23 ⟨Nat.zero_le _, Nat.zero_le _⟩) hP hD hS hA [0, 1, 2, 3, 4] rfl (fun _ => rfl) (fun u => cw_X9_judge cI h h_book h_now h_places h_pad g_ways g_milky g_sights g_sight g_enough g_rows g_counts g_pours g_image g_isKept f_book u.1 f_places f_power f_spite f_signs f_pad u.2.1 u.2.2.1 u.2.2.2.1 u.2.2.2.2) (fun _ => rfl) (fun r23 u23 H locs hw hP hD hS => ?_)
      obtain ⟨u23_0, u23_1, u23_2, u23_3, u23_4⟩ := u23
      try dsimp only at hw
      have hP : va_P D vwCl (cw_X9_judge cI h h_book h_now h_places h_pad g_ways g_milky g_sights g_sight g_enough g_rows g_counts g_pours g_image g_isKept f_book u23_0 f_places f_power f_spite f_signs f_pad u23_1 u23_2 u23_3 u23_4) H := hP
      have hD : va_D A (cw_X9_judge cI h h_book h_now h_places h_pad g_ways g_milky g_sights g_sight g_enough g_rows g_counts g_pours g_image g_isKept f_book u23_0 f_places f_power f_spite f_signs f_pad u23_1 u23_2 u23_3 u23_4) := hD
      refine lv_istore_n (lv' := [(2, .int r23), (0, .ref h), (1, .int p1)]) hx hb dX9_judge_26 rfl hl (by decide) rfl (fun ls hl => ?_)
      refine lv_iload_n hx hb dX9_judge_27 rfl (lv_at hl 0 rfl) ?_
      refine lv_if_lt (tgt := 35) hx hb dX9_judge_28 (by decide) (fun c28 => ?_) (fun c28 => ?_)
      · have hw := hw.1 c28
        exact J35 u23_0 u23_1 u23_2 u23_3 u23_4 r23 _ _ _ hw hP hD hS (lv_sub hl [0] rfl)
      have hw := hw.2 c28
      refine lv_iload_n hx hb dX9_judge_31 rfl (lv_at hl 2 rfl) ?_
      refine lv_if_ne (tgt := 39) hx hb dX9_judge_32 (by decide) (fun c32 => ?_) (fun c32 => ?_)
      · have hw := hw.2 c32
        refine lv_aload_n hx hb dX9_judge_39 rfl (lv_at hl 1 rfl) ?_
        refine va_get (D := D) (ci := 9) (v := .int u23_3) (C := RX9) (T := TX9) (N := 21) hx hb hz hX_X9 hown hK.1 hP 0 rfl rfl 13 (by decide) (hz _ z3_169) (fun _ h9 => h9) rfl dX9_judge_40 ?_
        exact z_iret hx hb hr hlocks (u23_0, u23_1, u23_2, u23_3, u23_4) hw hP hS dX9_judge_43
      have hw := hw.1 c32
      exact J35 u23_0 u23_1 u23_2 u23_3 u23_4 r23 _ _ _ hw hP hD hS (lv_sub hl [0] rfl)
    have hw := hw.2 c16
    refine lv_bipush (v := (-5 : Int32)) hx hb dX9_judge_19 (by decide) ?_
    exact z_iret hx hb hr hlocks (f_now, f_offAt, f_offWho, f_reason, f_acts) hw hP hS dX9_judge_21
  have hw := hw.1 c6
  refine lv_bipush (v := (-2 : Int32)) hx hb dX9_judge_9 (by decide) ?_
  exact z_iret hx hb hr hlocks (f_now, f_offAt, f_offWho, f_reason, f_acts) hw hP hS dX9_judge_11
abbrev cw_X9_barOfTerms (cI : ClassId) (h h_book h_now h_places h_pad : Nat) (g_ways g_milky g_sights g_sight g_enough g_rows g_counts g_pours g_image g_isKept : Value) (f_book : Nat → Int32) (f_now : Nat → Int32) (f_places : Nat → Int32) (f_power : Int32) (f_spite : Int32) (f_signs : Int32) (f_pad : Nat → Int32) (f_offAt : Int32) (f_offWho : Int32) (f_reason : Int32) (f_acts : Int32) : va_W := [(h, .inr (9, [.ref h_book, .ref h_now, .ref h_places, .int f_power, .int f_spite, g_ways, g_milky, g_sights, g_sight, .int f_signs, .ref h_pad, .int f_offAt, .int f_offWho, .int f_reason, .int f_acts, g_enough, g_rows, g_counts, g_pours, g_image, g_isKept])), (h_book, .inl (cI, 12, .inl f_book)), (h_now, .inl (cI, 12, .inl f_now)), (h_places, .inl (cI, 8, .inl f_places)), (h_pad, .inl (cI, 60, .inl f_pad))]
abbrev q_X9_barOfTerms (D : va_G) (cI : ClassId) (h h_book h_now h_places h_pad : Nat) (g_ways g_milky g_sights g_sight g_enough g_rows g_counts g_pours g_image g_isKept : Value) (post : Int32 → (Nat → Int32) → Int32 → Int32 → Int32 → Int32 → Prop) (f_book : Nat → Int32) (f_places : Nat → Int32) (f_power : Int32) (f_spite : Int32) (f_signs : Int32) (f_pad : Nat → Int32) (A : Nat → Prop) : Array Value → State → Outcome → State → Prop := va_Qi (S := (Nat → Int32) × Int32 × Int32 × Int32 × Int32) (fun r u => post r u.1 u.2.1 u.2.2.1 u.2.2.2.1 u.2.2.2.2) (fun u t => va_P D vwCl (cw_X9_barOfTerms cI h h_book h_now h_places h_pad g_ways g_milky g_sights g_sight g_enough g_rows g_counts g_pours g_image g_isKept f_book u.1 f_places f_power f_spite f_signs f_pad u.2.1 u.2.2.1 u.2.2.2.1 u.2.2.2.2) t.heap) A
abbrev v_X9_barOfTerms : List Cond := .code yX9_barOfTerms cX9_barOfTerms 1 (some .int) :: zB
theorem hd_X9_barOfTerms : yX9_barOfTerms.cls = RX9 ∧ yX9_barOfTerms.cls ≠ "java/lang/invoke/MethodHandle" ∧ yX9_barOfTerms.cls ≠ "java/lang/invoke/VarHandle" ∧ (parseMethodDescriptor yX9_barOfTerms.desc).map (fun d => d.parameters.length) = some 0 := by decide +kernel
set_option maxHeartbeats 4000000 in
set_option maxRecDepth 100000 in
theorem c_X9_barOfTerms (l : Launch) (D : va_G) (cI cC cZ : ClassId) (h h_book h_now h_places h_pad : Nat) (g_ways g_milky g_sights g_sight g_enough g_rows g_counts g_pours g_image g_isKept : Value) (f_book : Nat → Int32) (f_now : Nat → Int32) (f_places : Nat → Int32) (f_power : Int32) (f_spite : Int32) (f_signs : Int32) (f_pad : Nat → Int32) (f_offAt : Int32) (f_offWho : Int32) (f_reason : Int32) (f_acts : Int32) (sz : Nat) (post : Int32 → (Nat → Int32) → Int32 → Int32 → Int32 → Int32 → Prop) (hw : w_X9_barOfTerms post f_book f_now f_places f_power f_spite f_signs f_pad f_offAt f_offWho f_reason f_acts) : Met l yX9_barOfTerms v_X9_barOfTerms ({ frames := 5, cells := 0, slots := 0, locals := 111 } : Room) (va_Pc [.ref h] (zPre D (zT cI cC cZ) sz (cw_X9_barOfTerms cI h h_book h_now h_places h_pad g_ways g_milky g_sights g_sight g_enough g_rows g_counts g_pours g_image g_isKept f_book f_now f_places f_power f_spite f_signs f_pad f_offAt f_offWho f_reason f_acts))) (q_X9_barOfTerms D cI h h_book h_now h_places h_pad g_ways g_milky g_sights g_sight g_enough g_rows g_counts g_pours g_image g_isKept post f_book f_places f_power f_spite f_signs f_pad (va_A (cw_X9_barOfTerms cI h h_book h_now h_places h_pad g_ways g_milky g_sights g_sight g_enough g_rows g_counts g_pours g_image g_isKept f_book f_now f_places f_power f_spite f_signs f_pad f_offAt f_offWho f_reason f_acts) sz)) 0 0 (va_A (cw_X9_barOfTerms cI h h_book h_now h_places h_pad g_ways g_milky g_sights g_sight g_enough g_rows g_counts g_pours g_image g_isKept f_book f_now f_places f_power f_spite f_signs f_pad f_offAt f_offWho f_reason f_acts) sz) := by
  refine Met.ofW (cc := cX9_barOfTerms) (maxL := 1) (ret := (some .int)) (by decide) rfl ?_
  intro p e s m args below meth c s₁ B hml hv
  obtain ⟨rfl, hsz, hP, hK, hD0⟩ := hv
  subst hsz
  have hx := B.exec
  have hb := B.bytes
  have hr := B.returns
  have hz : ∀ w ∈ zB, w.before _ s = true := fun w h => atoms_spec (ws := v_X9_barOfTerms) B.pre w (List.mem_cons_of_mem _ h)
  have hown : s.vm.findClass RX9 = some m.cls := findClass_of_methodNamed B.named
  have hlocks := B.notSynchronized
  have hF : CallFix p m c cX9_barOfTerms 1 s (([.ref h] : List Value).toArray) zB RX9 := ⟨hx, hb, hml, hown, hz⟩
  have hD := hD0.self (sz := s.heap.size)
  generalize hAe : va_A (cw_X9_barOfTerms cI h h_book h_now h_places h_pad g_ways g_milky g_sights g_sight g_enough g_rows g_counts g_pours g_image g_isKept f_book f_now f_places f_power f_spite f_signs f_pad f_offAt f_offWho f_reason f_acts) s.heap.size = A at hD ⊢
  have hA : ∀ q : Nat, s.heap.size ≤ q → A q := fun q h => by rw [← hAe]; exact Or.inr h
  have hS : va_S A s.heap s.heap [] := va_S.rf
  have hP : va_P D vwCl (cw_X9_barOfTerms cI h h_book h_now h_places h_pad g_ways g_milky g_sights g_sight g_enough g_rows g_counts g_pours g_image g_isKept f_book f_now f_places f_power f_spite f_signs f_pad f_offAt f_offWho f_reason f_acts) s.heap := hP
  have hl := lv_entry ([.ref h]) (n := 1) (Nat.le_of_ble_eq_true rfl)
  rw [lg_entry_eq]
  generalize (lg_sl ([.ref h]) ++ List.replicate (1 - (lg_sl ([.ref h])).length) Slot.unset).toArray = ls at hl ⊢
  have hl : lv_has ls 1 [(0, .ref h)] := hl
  have J14 : ∀ (f_now : Nat → Int32) (f_offAt : Int32) (f_offWho : Int32) (f_reason : Int32) (f_acts : Int32) (H : Heap) (locs : List Loc) (ls : Array Slot) (hw : w_X9_barOfTerms_B14 post f_book f_places f_power f_spite f_signs f_pad f_now f_offAt f_offWho f_reason f_acts) (hP : va_P D vwCl (cw_X9_barOfTerms cI h h_book h_now h_places h_pad g_ways g_milky g_sights g_sight g_enough g_rows g_counts g_pours g_image g_isKept f_book f_now f_places f_power f_spite f_signs f_pad f_offAt f_offWho f_reason f_acts) H) (hD : va_D A (cw_X9_barOfTerms cI h h_book h_now h_places h_pad g_ways g_milky g_sights g_sight g_enough g_rows g_counts g_pours g_image g_isKept f_book f_now f_places f_power f_spite f_signs f_pad f_offAt f_offWho f_reason f_acts)) (hS : va_S A s.heap H locs) (hl : lv_has ls 1 []), W p l e (headSpec v_X9_barOfTerms ({ frames := 5, cells := 0, slots := 0, locals := 111 } : Room)).room s m (([.ref h] : List Value).toArray) below meth c H locs 0 0 (MQ below (q_X9_barOfTerms D cI h h_book h_now h_places h_pad g_ways g_milky g_sights g_sight g_enough g_rows g_counts g_pours g_image g_isKept post f_book f_places f_power f_spite f_signs f_pad A) (([.ref h] : List Value).toArray) s 0 0 A) (F0 m 14 ls []) := by
    intro f_now f_offAt f_offWho f_reason f_acts H locs ls hw hP hD hS hl
    unfold w_X9_barOfTerms_B14 at hw
    refine lv_bipush (v := (-5 : Int32)) hx hb dX9_barOfTerms_14 (by decide) ?_
    refine lv_goto (tgt := 20) hx hb dX9_barOfTerms_16 (by decide) ?_
    exact z_iret hx hb hr hlocks (f_now, f_offAt, f_offWho, f_reason, f_acts) hw hP hS dX9_barOfTerms_20
  unfold w_X9_barOfTerms at hw
  refine lv_aload_n hx hb dX9_barOfTerms_0 rfl (lv_at hl 0 rfl) ?_
  refine z_ri (z_runV (As := []) (rest := []) hF (c_X9_faultOf l D cI cC cZ h h_pad (.ref h_book) (.ref h_now) (.ref h_places) (.int f_power) (.int f_spite) g_ways g_milky g_sights g_sight (.int f_offAt) (.int f_offWho) (.int f_reason) (.int f_acts) g_enough g_rows g_counts g_pours g_image g_isKept f_signs f_pad _ _ hw) (cwV 0 hz (z_gV z4_18 z4_20 zp_15 z1_10 z4_21) rfl rfl rfl hd_X9_faultOf ⟨Nat.le_of_ble_eq_true rfl, Nat.le_of_ble_eq_true rfl⟩) hK hP hD [0, 4] rfl rfl 0 9 rfl rfl rfl rfl hl.1 rfl (Nat.le_of_ble_eq_true rfl) dX9_barOfTerms_1 ⟨Nat.zero_le _, Nat.zero_le _⟩) hP hD hS hA [0, 4] rfl (fun _ => rfl) (fun _ => cw_X9_barOfTerms cI h h_book h_now h_places h_pad g_ways g_milky g_sights g_sight g_enough g_rows g_counts g_pours g_image g_isKept f_book f_now f_places f_power f_spite f_signs f_pad f_offAt f_offWho f_reason f_acts) (fun _ => rfl) (fun r1 u1 H locs hw hP hD hS => ?_)
  try dsimp only at hw
  refine lv_if_ge (tgt := 14) hx hb dX9_barOfTerms_4 (by decide) (fun c4 => ?_) (fun c4 => ?_)
  · have hw := hw.1 c4
    exact J14 f_now f_offAt f_offWho f_reason f_acts _ _ _ hw hP hD hS (lv_sub hl [] rfl)
  have hw := hw.2 c4
  refine lv_aload_n hx hb dX9_barOfTerms_7 rfl (lv_at hl 0 rfl) ?_
  refine z_ri (z_runV (As := []) (rest := []) hF (c_X9_goTerms l D cI cC cZ h h_book h_now h_places h_pad g_ways g_milky g_sights g_sight g_enough g_rows g_counts g_pours g_image g_isKept f_book f_now f_places f_power f_spite f_signs f_pad f_offAt f_offWho f_reason f_acts _ _ hw) (cwV 0 hz (z_gV z4_26 z4_28 zp_16 z1_10 z4_29) rfl rfl rfl hd_X9_goTerms ⟨Nat.le_of_ble_eq_true rfl, Nat.le_of_ble_eq_true rfl⟩) hK hP hD [0, 1, 2, 3, 4] rfl rfl 0 9 rfl rfl rfl rfl hl.1 rfl (Nat.le_of_ble_eq_true rfl) dX9_barOfTerms_8 ⟨Nat.zero_le _, Nat.zero_le _⟩) hP hD hS hA [0, 1, 2, 3, 4] rfl (fun _ => rfl) (fun u => cw_X9_barOfTerms cI h h_book h_now h_places h_pad g_ways g_milky g_sights g_sight g_enough g_rows g_counts g_pours g_image g_isKept f_book u.1 f_places f_power f_spite f_signs f_pad u.2.1 u.2.2.1 u.2.2.2.1 u.2.2.2.2) (fun _ => rfl) (fun r8 u8 H locs hw hP hD hS => ?_)
  obtain ⟨u8_0, u8_1, u8_2, u8_3, u8_4⟩ := u8
  try dsimp only at hw
  have hP : va_P D vwCl (cw_X9_barOfTerms cI h h_book h_now h_places h_pad g_ways g_milky g_sights g_sight g_enough g_rows g_counts g_pours g_image g_isKept f_book u8_0 f_places f_power f_spite f_signs f_pad u8_1 u8_2 u8_3 u8_4) H := hP
  have hD : va_D A (cw_X9_barOfTerms cI h h_book h_now h_places h_pad g_ways g_milky g_sights g_sight g_enough g_rows g_counts g_pours g_image g_isKept f_book u8_0 f_places f_power f_spite f_signs f_pad u8_1 u8_2 u8_3 u8_4) := hD
  refine lv_if_lt (tgt := 19) hx hb dX9_barOfTerms_11 (by decide) (fun c11 => ?_) (fun c11 => ?_)
  · have hw := hw.1 c11
    refine lv_iconst (v := (0 : Int32)) hx hb dX9_barOfTerms_19 (by decide) ?_
    exact z_iret hx hb hr hlocks (u8_0, u8_1, u8_2, u8_3, u8_4) hw hP hS dX9_barOfTerms_20
  have hw := hw.2 c11
  exact J14 u8_0 u8_1 u8_2 u8_3 u8_4 _ _ _ hw hP hD hS (lv_sub hl [] rfl)
abbrev cw_X9_done (cI : ClassId) (h h_book h_now h_places h_pad : Nat) (g_ways g_milky g_sights g_sight g_enough g_rows g_counts g_pours g_image g_isKept : Value) (f_book : Nat → Int32) (f_now : Nat → Int32) (f_places : Nat → Int32) (f_power : Int32) (f_spite : Int32) (f_signs : Int32) (f_pad : Nat → Int32) (f_offAt : Int32) (f_offWho : Int32) (f_reason : Int32) (f_acts : Int32) : va_W := [(h, .inr (9, [.ref h_book, .ref h_now, .ref h_places, .int f_power, .int f_spite, g_ways, g_milky, g_sights, g_sight, .int f_signs, .ref h_pad, .int f_offAt, .int f_offWho, .int f_reason, .int f_acts, g_enough, g_rows, g_counts, g_pours, g_image, g_isKept])), (h_book, .inl (cI, 12, .inl f_book)), (h_now, .inl (cI, 12, .inl f_now)), (h_places, .inl (cI, 8, .inl f_places)), (h_pad, .inl (cI, 60, .inl f_pad))]
abbrev q_X9_done (D : va_G) (cI : ClassId) (h h_book h_now h_places h_pad : Nat) (g_ways g_milky g_sights g_sight g_enough g_rows g_counts g_pours g_image g_isKept : Value) (post : Int32 → (Nat → Int32) → (Nat → Int32) → Int32 → Int32 → Int32 → Int32 → Int32 → Prop) (f_places : Nat → Int32) (f_power : Int32) (f_spite : Int32) (f_pad : Nat → Int32) (A : Nat → Prop) : Array Value → State → Outcome → State → Prop := va_Qi (S := (Nat → Int32) × (Nat → Int32) × Int32 × Int32 × Int32 × Int32 × Int32) (fun r u => post r u.1 u.2.1 u.2.2.1 u.2.2.2.1 u.2.2.2.2.1 u.2.2.2.2.2.1 u.2.2.2.2.2.2) (fun u t => va_P D vwCl (cw_X9_done cI h h_book h_now h_places h_pad g_ways g_milky g_sights g_sight g_enough g_rows g_counts g_pours g_image g_isKept u.1 u.2.1 f_places f_power f_spite u.2.2.1 f_pad u.2.2.2.1 u.2.2.2.2.1 u.2.2.2.2.2.1 u.2.2.2.2.2.2) t.heap) A
abbrev v_X9_done : List Cond := .code yX9_done cX9_done 2 (some .int) :: zB
theorem hd_X9_done : yX9_done.cls = RX9 ∧ yX9_done.cls ≠ "java/lang/invoke/MethodHandle" ∧ yX9_done.cls ≠ "java/lang/invoke/VarHandle" ∧ (parseMethodDescriptor yX9_done.desc).map (fun d => d.parameters.length) = some 0 := by decide +kernel
set_option maxHeartbeats 4000000 in
set_option maxRecDepth 100000 in
theorem c_X9_done (l : Launch) (D : va_G) (cI cC cZ : ClassId) (h h_book h_now h_places h_pad : Nat) (g_ways g_milky g_sights g_sight g_enough g_rows g_counts g_pours g_image g_isKept : Value) (f_book : Nat → Int32) (f_now : Nat → Int32) (f_places : Nat → Int32) (f_power : Int32) (f_spite : Int32) (f_signs : Int32) (f_pad : Nat → Int32) (f_offAt : Int32) (f_offWho : Int32) (f_reason : Int32) (f_acts : Int32) (sz : Nat) (post : Int32 → (Nat → Int32) → (Nat → Int32) → Int32 → Int32 → Int32 → Int32 → Int32 → Prop) (hw : w_X9_done post f_book f_now f_places f_power f_spite f_signs f_pad f_offAt f_offWho f_reason f_acts) : Met l yX9_done v_X9_done ({ frames := 6, cells := 0, slots := 0, locals := 131 } : Room) (va_Pc [.ref h] (zPre D (zT cI cC cZ) sz (cw_X9_done cI h h_book h_now h_places h_pad g_ways g_milky g_sights g_sight g_enough g_rows g_counts g_pours g_image g_isKept f_book f_now f_places f_power f_spite f_signs f_pad f_offAt f_offWho f_reason f_acts))) (q_X9_done D cI h h_book h_now h_places h_pad g_ways g_milky g_sights g_sight g_enough g_rows g_counts g_pours g_image g_isKept post f_places f_power f_spite f_pad (va_A (cw_X9_done cI h h_book h_now h_places h_pad g_ways g_milky g_sights g_sight g_enough g_rows g_counts g_pours g_image g_isKept f_book f_now f_places f_power f_spite f_signs f_pad f_offAt f_offWho f_reason f_acts) sz)) 0 0 (va_A (cw_X9_done cI h h_book h_now h_places h_pad g_ways g_milky g_sights g_sight g_enough g_rows g_counts g_pours g_image g_isKept f_book f_now f_places f_power f_spite f_signs f_pad f_offAt f_offWho f_reason f_acts) sz) := by
  refine Met.ofW (cc := cX9_done) (maxL := 2) (ret := (some .int)) (by decide) rfl ?_
  intro p e s m args below meth c s₁ B hml hv
  obtain ⟨rfl, hsz, hP, hK, hD0⟩ := hv
  subst hsz
  have hx := B.exec
  have hb := B.bytes
  have hr := B.returns
  have hz : ∀ w ∈ zB, w.before _ s = true := fun w h => atoms_spec (ws := v_X9_done) B.pre w (List.mem_cons_of_mem _ h)
  have hown : s.vm.findClass RX9 = some m.cls := findClass_of_methodNamed B.named
  have hlocks := B.notSynchronized
  have hF : CallFix p m c cX9_done 2 s (([.ref h] : List Value).toArray) zB RX9 := ⟨hx, hb, hml, hown, hz⟩
  have hD := hD0.self (sz := s.heap.size)
  generalize hAe : va_A (cw_X9_done cI h h_book h_now h_places h_pad g_ways g_milky g_sights g_sight g_enough g_rows g_counts g_pours g_image g_isKept f_book f_now f_places f_power f_spite f_signs f_pad f_offAt f_offWho f_reason f_acts) s.heap.size = A at hD ⊢
  have hA : ∀ q : Nat, s.heap.size ≤ q → A q := fun q h => by rw [← hAe]; exact Or.inr h
  have hS : va_S A s.heap s.heap [] := va_S.rf
  have hP : va_P D vwCl (cw_X9_done cI h h_book h_now h_places h_pad g_ways g_milky g_sights g_sight g_enough g_rows g_counts g_pours g_image g_isKept f_book f_now f_places f_power f_spite f_signs f_pad f_offAt f_offWho f_reason f_acts) s.heap := hP
  have hl := lv_entry ([.ref h]) (n := 2) (Nat.le_of_ble_eq_true rfl)
  rw [lg_entry_eq]
  generalize (lg_sl ([.ref h]) ++ List.replicate (2 - (lg_sl ([.ref h])).length) Slot.unset).toArray = ls at hl ⊢
  have hl : lv_has ls 2 [(0, .ref h)] := hl
  have L12 : ∀ (n12 : Nat) (f_book : Nat → Int32) (f_now : Nat → Int32) (f_signs : Int32) (f_offAt : Int32) (f_offWho : Int32) (f_reason : Int32) (f_acts : Int32) (x1 : Int32) (H : Heap) (locs : List Loc) (ls : Array Slot) (hw : w_X9_done_B12 post f_places f_power f_spite f_pad n12 f_book f_now f_signs f_offAt f_offWho f_reason f_acts x1) (hP : va_P D vwCl (cw_X9_done cI h h_book h_now h_places h_pad g_ways g_milky g_sights g_sight g_enough g_rows g_counts g_pours g_image g_isKept f_book f_now f_places f_power f_spite f_signs f_pad f_offAt f_offWho f_reason f_acts) H) (hD : va_D A (cw_X9_done cI h h_book h_now h_places h_pad g_ways g_milky g_sights g_sight g_enough g_rows g_counts g_pours g_image g_isKept f_book f_now f_places f_power f_spite f_signs f_pad f_offAt f_offWho f_reason f_acts)) (hS : va_S A s.heap H locs) (hl : lv_has ls 2 [(0, .ref h), (1, .int x1)]), W p l e (headSpec v_X9_done ({ frames := 6, cells := 0, slots := 0, locals := 131 } : Room)).room s m (([.ref h] : List Value).toArray) below meth c H locs 0 0 (MQ below (q_X9_done D cI h h_book h_now h_places h_pad g_ways g_milky g_sights g_sight g_enough g_rows g_counts g_pours g_image g_isKept post f_places f_power f_spite f_pad A) (([.ref h] : List Value).toArray) s 0 0 A) (F0 m 12 ls []) := by
    intro n12
    induction n12 with
    | zero => intro f_book f_now f_signs f_offAt f_offWho f_reason f_acts x1 H locs ls hw; exact False.elim hw
    | succ n12 ih12 =>
      intro f_book f_now f_signs f_offAt f_offWho f_reason f_acts x1 H locs ls hw hP hD hS hl
      unfold w_X9_done_B12 at hw
      refine lv_iload_n hx hb dX9_done_12 rfl (lv_at hl 1 rfl) ?_
      refine lv_bipush (v := (12 : Int32)) hx hb dX9_done_13 (by decide) ?_
      refine lv_icmp_ge (tgt := 36) hx hb dX9_done_15 (by decide) (fun c15 => ?_) (fun c15 => ?_)
      · have hw := hw.1 c15
        refine lv_aload_n hx hb dX9_done_36 rfl (lv_at hl 0 rfl) ?_
        refine lv_iconst (v := (0 : Int32)) hx hb dX9_done_37 (by decide) ?_
        refine va_put (D := D) (ci := 9) (v := .int (0 : Int32)) (ty := .int) (C := RX9) (T := TX9) (N := 21) hx hb hz hX_X9 tyX9 tyX9_ok nmX9 hown hK.1 hP hD hS 0 rfl rfl 9 (by decide) (hz _ z3_165) (fun _ h9 => h9) rfl (tyX9_ok 9 (by decide)) rfl rfl (Nat.le_of_ble_eq_true rfl) dX9_done_38 (fun H locs hP hD hS => ?_)
        have hP : va_P D vwCl (cw_X9_done cI h h_book h_now h_places h_pad g_ways g_milky g_sights g_sight g_enough g_rows g_counts g_pours g_image g_isKept f_book f_now f_places f_power f_spite (0 : Int32) f_pad f_offAt f_offWho f_reason f_acts) H := hP
        have hD : va_D A (cw_X9_done cI h h_book h_now h_places h_pad g_ways g_milky g_sights g_sight g_enough g_rows g_counts g_pours g_image g_isKept f_book f_now f_places f_power f_spite (0 : Int32) f_pad f_offAt f_offWho f_reason f_acts) := hD
        refine lv_aload_n hx hb dX9_done_41 rfl (lv_at hl 0 rfl) ?_
        refine va_get (D := D) (ci := 9) (v := .int f_acts) (C := RX9) (T := TX9) (N := 21) hx hb hz hX_X9 hown hK.1 hP 0 rfl rfl 14 (by decide) (hz _ z3_170) (fun _ h9 => h9) rfl dX9_done_42 ?_
        exact z_iret hx hb hr hlocks (f_book, f_now, (0 : Int32), f_offAt, f_offWho, f_reason, f_acts) hw hP hS dX9_done_45
      have hw := hw.2 c15
      refine lv_aload_n hx hb dX9_done_18 rfl (lv_at hl 0 rfl) ?_
      refine va_get (D := D) (ci := 9) (v := .ref h_book) (C := RX9) (T := TX9) (N := 21) hx hb hz hX_X9 hown hK.1 hP 0 rfl rfl 0 (by decide) (hz _ z3_156) (fun _ h9 => h9) rfl dX9_done_19 ?_
      refine lv_iload_n hx hb dX9_done_22 rfl (lv_at hl 1 rfl) ?_
      refine lv_aload_n hx hb dX9_done_23 rfl (lv_at hl 0 rfl) ?_
      refine va_get (D := D) (ci := 9) (v := .ref h_now) (C := RX9) (T := TX9) (N := 21) hx hb hz hX_X9 hown hK.1 hP 0 rfl rfl 1 (by decide) (hz _ z3_157) (fun _ h9 => h9) rfl dX9_done_24 ?_
      refine lv_iload_n hx hb dX9_done_27 rfl (lv_at hl 1 rfl) ?_
      obtain ⟨hi28, hw⟩ := hw
      refine va_iald hx hb hK.1 hP 2 0 rfl rfl hi28 dX9_done_28 ?_
      obtain ⟨hi29, hw⟩ := hw
      refine va_iast hx hb hK.1 hP hD hS 1 0 rfl rfl hi29 dX9_done_29 (fun H locs hP hD hS => ?_)
      have hP : va_P D vwCl (cw_X9_done cI h h_book h_now h_places h_pad g_ways g_milky g_sights g_sight g_enough g_rows g_counts g_pours g_image g_isKept (upd f_book x1.toNatClampNeg (f_now x1.toNatClampNeg)) f_now f_places f_power f_spite f_signs f_pad f_offAt f_offWho f_reason f_acts) H := hP
      have hD : va_D A (cw_X9_done cI h h_book h_now h_places h_pad g_ways g_milky g_sights g_sight g_enough g_rows g_counts g_pours g_image g_isKept (upd f_book x1.toNatClampNeg (f_now x1.toNatClampNeg)) f_now f_places f_power f_spite f_signs f_pad f_offAt f_offWho f_reason f_acts) := hD
      refine lv_iinc (k := 1) (v := (x1 + 1)) (lv' := [(1, .int (x1 + 1)), (0, .ref h)]) hx hb dX9_done_30 hl rfl rfl (by decide) rfl (fun ls hl => ?_)
      refine lv_goto (tgt := 12) hx hb dX9_done_33 (by decide) ?_
      exact ih12 (upd f_book x1.toNatClampNeg (f_now x1.toNatClampNeg)) f_now f_signs f_offAt f_offWho f_reason f_acts (x1 + 1) _ _ _ hw hP hD hS (lv_sub hl [1, 0] rfl)
  unfold w_X9_done at hw
  refine lv_aload_n hx hb dX9_done_0 rfl (lv_at hl 0 rfl) ?_
  refine z_ri (z_runV (As := []) (rest := []) hF (c_X9_barOfTerms l D cI cC cZ h h_book h_now h_places h_pad g_ways g_milky g_sights g_sight g_enough g_rows g_counts g_pours g_image g_isKept f_book f_now f_places f_power f_spite f_signs f_pad f_offAt f_offWho f_reason f_acts _ _ hw) (cwV 0 hz (z_gV z4_89 z4_91 zp_30 z1_10 z4_92) rfl rfl rfl hd_X9_barOfTerms ⟨Nat.le_of_ble_eq_true rfl, Nat.le_of_ble_eq_true rfl⟩) hK hP hD [0, 1, 2, 3, 4] rfl rfl 0 9 rfl rfl rfl rfl hl.1 rfl (Nat.le_of_ble_eq_true rfl) dX9_done_1 ⟨Nat.zero_le _, Nat.zero_le _⟩) hP hD hS hA [0, 1, 2, 3, 4] rfl (fun _ => rfl) (fun u => cw_X9_done cI h h_book h_now h_places h_pad g_ways g_milky g_sights g_sight g_enough g_rows g_counts g_pours g_image g_isKept f_book u.1 f_places f_power f_spite f_signs f_pad u.2.1 u.2.2.1 u.2.2.2.1 u.2.2.2.2) (fun _ => rfl) (fun r1 u1 H locs hw hP hD hS => ?_)
  obtain ⟨u1_0, u1_1, u1_2, u1_3, u1_4⟩ := u1
  try dsimp only at hw
  have hP : va_P D vwCl (cw_X9_done cI h h_book h_now h_places h_pad g_ways g_milky g_sights g_sight g_enough g_rows g_counts g_pours g_image g_isKept f_book u1_0 f_places f_power f_spite f_signs f_pad u1_1 u1_2 u1_3 u1_4) H := hP
  have hD : va_D A (cw_X9_done cI h h_book h_now h_places h_pad g_ways g_milky g_sights g_sight g_enough g_rows g_counts g_pours g_image g_isKept f_book u1_0 f_places f_power f_spite f_signs f_pad u1_1 u1_2 u1_3 u1_4) := hD
  refine lv_if_ge (tgt := 10) hx hb dX9_done_4 (by decide) (fun c4 => ?_) (fun c4 => ?_)
  · have hw := hw.1 c4
    refine lv_iconst (v := (0 : Int32)) hx hb dX9_done_10 (by decide) ?_
    refine lv_istore_n (lv' := [(1, .int (0 : Int32)), (0, .ref h)]) hx hb dX9_done_11 rfl hl (by decide) rfl (fun ls hl => ?_)
    obtain ⟨n12, hw⟩ := hw
    exact L12 n12 f_book u1_0 f_signs u1_1 u1_2 u1_3 u1_4 (0 : Int32) _ _ _ hw hP hD hS (lv_sub hl [1, 0] rfl)
  have hw := hw.2 c4
  refine lv_bipush (v := (-5 : Int32)) hx hb dX9_done_7 (by decide) ?_
  exact z_iret hx hb hr hlocks (f_book, u1_0, f_signs, u1_1, u1_2, u1_3, u1_4) hw hP hS dX9_done_9
abbrev cw_X9_behind (cI : ClassId) (h h_book h_now h_places h_pad : Nat) (g_ways g_milky g_sights g_sight g_enough g_rows g_counts g_pours g_image g_isKept : Value) (f_book : Nat → Int32) (f_now : Nat → Int32) (f_places : Nat → Int32) (f_power : Int32) (f_spite : Int32) (f_signs : Int32) (f_pad : Nat → Int32) (f_offAt : Int32) (f_offWho : Int32) (f_reason : Int32) (f_acts : Int32) : va_W := [(h, .inr (9, [.ref h_book, .ref h_now, .ref h_places, .int f_power, .int f_spite, g_ways, g_milky, g_sights, g_sight, .int f_signs, .ref h_pad, .int f_offAt, .int f_offWho, .int f_reason, .int f_acts, g_enough, g_rows, g_counts, g_pours, g_image, g_isKept])), (h_book, .inl (cI, 12, .inl f_book)), (h_now, .inl (cI, 12, .inl f_now)), (h_places, .inl (cI, 8, .inl f_places)), (h_pad, .inl (cI, 60, .inl f_pad))]
abbrev q_X9_behind (D : va_G) (cI : ClassId) (h h_book h_now h_places h_pad : Nat) (g_ways g_milky g_sights g_sight g_enough g_rows g_counts g_pours g_image g_isKept : Value) (post : Int32 → (Nat → Int32) → Int32 → Int32 → Int32 → Int32 → Prop) (f_book : Nat → Int32) (f_places : Nat → Int32) (f_power : Int32) (f_spite : Int32) (f_signs : Int32) (f_pad : Nat → Int32) (A : Nat → Prop) : Array Value → State → Outcome → State → Prop := va_Qi (S := (Nat → Int32) × Int32 × Int32 × Int32 × Int32) (fun r u => post r u.1 u.2.1 u.2.2.1 u.2.2.2.1 u.2.2.2.2) (fun u t => va_P D vwCl (cw_X9_behind cI h h_book h_now h_places h_pad g_ways g_milky g_sights g_sight g_enough g_rows g_counts g_pours g_image g_isKept f_book u.1 f_places f_power f_spite f_signs f_pad u.2.1 u.2.2.1 u.2.2.2.1 u.2.2.2.2) t.heap) A
abbrev v_X9_behind : List Cond := .code yX9_behind cX9_behind 3 (some .int) :: zB
theorem hd_X9_behind : yX9_behind.cls = RX9 ∧ yX9_behind.cls ≠ "java/lang/invoke/MethodHandle" ∧ yX9_behind.cls ≠ "java/lang/invoke/VarHandle" ∧ (parseMethodDescriptor yX9_behind.desc).map (fun d => d.parameters.length) = some 2 := by decide +kernel
set_option maxHeartbeats 4000000 in
set_option maxRecDepth 100000 in
theorem c_X9_behind (l : Launch) (D : va_G) (cI cC cZ : ClassId) (h h_book h_now h_places h_pad : Nat) (g_ways g_milky g_sights g_sight g_enough g_rows g_counts g_pours g_image g_isKept : Value) (f_book : Nat → Int32) (f_now : Nat → Int32) (f_places : Nat → Int32) (f_power : Int32) (f_spite : Int32) (f_signs : Int32) (f_pad : Nat → Int32) (f_offAt : Int32) (f_offWho : Int32) (f_reason : Int32) (f_acts : Int32) (p1 : Int32) (p2 : Int32) (sz : Nat) (post : Int32 → (Nat → Int32) → Int32 → Int32 → Int32 → Int32 → Prop) (hw : w_X9_behind post f_book f_now f_places f_power f_spite f_signs f_pad f_offAt f_offWho f_reason f_acts p1 p2) : Met l yX9_behind v_X9_behind ({ frames := 6, cells := 0, slots := 0, locals := 131 } : Room) (va_Pc [.ref h, .int p1, .int p2] (zPre D (zT cI cC cZ) sz (cw_X9_behind cI h h_book h_now h_places h_pad g_ways g_milky g_sights g_sight g_enough g_rows g_counts g_pours g_image g_isKept f_book f_now f_places f_power f_spite f_signs f_pad f_offAt f_offWho f_reason f_acts))) (q_X9_behind D cI h h_book h_now h_places h_pad g_ways g_milky g_sights g_sight g_enough g_rows g_counts g_pours g_image g_isKept post f_book f_places f_power f_spite f_signs f_pad (va_A (cw_X9_behind cI h h_book h_now h_places h_pad g_ways g_milky g_sights g_sight g_enough g_rows g_counts g_pours g_image g_isKept f_book f_now f_places f_power f_spite f_signs f_pad f_offAt f_offWho f_reason f_acts) sz)) 0 0 (va_A (cw_X9_behind cI h h_book h_now h_places h_pad g_ways g_milky g_sights g_sight g_enough g_rows g_counts g_pours g_image g_isKept f_book f_now f_places f_power f_spite f_signs f_pad f_offAt f_offWho f_reason f_acts) sz) := by
  refine Met.ofW (cc := cX9_behind) (maxL := 3) (ret := (some .int)) (by decide) rfl ?_
  intro p e s m args below meth c s₁ B hml hv
  obtain ⟨rfl, hsz, hP, hK, hD0⟩ := hv
  subst hsz
  have hx := B.exec
  have hb := B.bytes
  have hr := B.returns
  have hz : ∀ w ∈ zB, w.before _ s = true := fun w h => atoms_spec (ws := v_X9_behind) B.pre w (List.mem_cons_of_mem _ h)
  have hown : s.vm.findClass RX9 = some m.cls := findClass_of_methodNamed B.named
  have hlocks := B.notSynchronized
  have hF : CallFix p m c cX9_behind 3 s (([.ref h, .int p1, .int p2] : List Value).toArray) zB RX9 := ⟨hx, hb, hml, hown, hz⟩
  have hD := hD0.self (sz := s.heap.size)
  generalize hAe : va_A (cw_X9_behind cI h h_book h_now h_places h_pad g_ways g_milky g_sights g_sight g_enough g_rows g_counts g_pours g_image g_isKept f_book f_now f_places f_power f_spite f_signs f_pad f_offAt f_offWho f_reason f_acts) s.heap.size = A at hD ⊢
  have hA : ∀ q : Nat, s.heap.size ≤ q → A q := fun q h => by rw [← hAe]; exact Or.inr h
  have hS : va_S A s.heap s.heap [] := va_S.rf
  have hP : va_P D vwCl (cw_X9_behind cI h h_book h_now h_places h_pad g_ways g_milky g_sights g_sight g_enough g_rows g_counts g_pours g_image g_isKept f_book f_now f_places f_power f_spite f_signs f_pad f_offAt f_offWho f_reason f_acts) s.heap := hP
  have hl := lv_entry ([.ref h, .int p1, .int p2]) (n := 3) (Nat.le_of_ble_eq_true rfl)
  rw [lg_entry_eq]
  generalize (lg_sl ([.ref h, .int p1, .int p2]) ++ List.replicate (3 - (lg_sl ([.ref h, .int p1, .int p2])).length) Slot.unset).toArray = ls at hl ⊢
  have hl : lv_has ls 3 [(0, .ref h), (1, .int p1), (2, .int p2)] := hl
  unfold w_X9_behind at hw
  refine lv_aload_n hx hb dX9_behind_0 rfl (lv_at hl 0 rfl) ?_
  refine lv_iload_n hx hb dX9_behind_1 rfl (lv_at hl 1 rfl) ?_
  refine z_ri (z_runV (As := [.int p1]) (rest := []) hF (c_X9_isThere l D cI cC cZ h h_book (.ref h_now) (.ref h_places) (.int f_power) (.int f_spite) g_ways g_milky g_sights g_sight (.int f_signs) (.ref h_pad) (.int f_offAt) (.int f_offWho) (.int f_reason) (.int f_acts) g_enough g_rows g_counts g_pours g_image g_isKept f_book p1 _ _ hw) (cwV 1 hz (z_gV z4_97 z4_99 zp_31 z1_10 z4_100) rfl rfl rfl hd_X9_isThere ⟨Nat.le_of_ble_eq_true rfl, Nat.le_of_ble_eq_true rfl⟩) hK hP hD [0, 1] rfl rfl 0 9 rfl rfl rfl rfl hl.1 rfl (Nat.le_of_ble_eq_true rfl) dX9_behind_2 ⟨Nat.zero_le _, Nat.zero_le _⟩) hP hD hS hA [0, 1] rfl (fun _ => rfl) (fun _ => cw_X9_behind cI h h_book h_now h_places h_pad g_ways g_milky g_sights g_sight g_enough g_rows g_counts g_pours g_image g_isKept f_book f_now f_places f_power f_spite f_signs f_pad f_offAt f_offWho f_reason f_acts) (fun _ => rfl) (fun r2 u2 H locs hw hP hD hS => ?_)
  obtain ⟨hn2, hw⟩ := hw
  try dsimp only at hw
  refine lv_if_ne (tgt := 10) hx hb dX9_behind_5 (by decide) (fun c5 => ?_) (fun c5 => ?_)
  · have hw := hw.2 c5
    refine lv_iload_n hx hb dX9_behind_10 rfl (lv_at hl 2 rfl) ?_
    refine lv_iconst (v := (0 : Int32)) hx hb dX9_behind_11 (by decide) ?_
    refine lv_iconst (v := (1 : Int32)) hx hb dX9_behind_12 (by decide) ?_
    refine z_ri (z_runS (As := [.int p2, .int (0 : Int32), .int (1 : Int32)]) (rest := []) hF (c_X9_in l D cI cC cZ p2 (0 : Int32) (1 : Int32) _ _ hw) (va_cwS 3 hz (z_gS z3_225 z3_226 z1_10 z3_227) rfl rfl rfl hd_X9_in ⟨Nat.le_of_ble_eq_true rfl, Nat.le_of_ble_eq_true rfl⟩) hK hP hD [] rfl rfl rfl hl.1 rfl (Nat.le_of_ble_eq_true rfl) dX9_behind_13 ⟨Nat.zero_le _, Nat.zero_le _⟩) hP hD hS hA [] rfl (fun _ => rfl) (fun _ => cw_X9_behind cI h h_book h_now h_places h_pad g_ways g_milky g_sights g_sight g_enough g_rows g_counts g_pours g_image g_isKept f_book f_now f_places f_power f_spite f_signs f_pad f_offAt f_offWho f_reason f_acts) (fun _ => rfl) (fun r13 u13 H locs hw hP hD hS => ?_)
    obtain ⟨hn13, hw⟩ := hw
    try dsimp only at hw
    refine lv_if_ne (tgt := 22) hx hb dX9_behind_16 (by decide) (fun c16 => ?_) (fun c16 => ?_)
    · have hw := hw.2 c16
      refine lv_aload_n hx hb dX9_behind_22 rfl (lv_at hl 0 rfl) ?_
      refine z_ri (z_runV (As := []) (rest := []) hF (c_X9_barOfTerms l D cI cC cZ h h_book h_now h_places h_pad g_ways g_milky g_sights g_sight g_enough g_rows g_counts g_pours g_image g_isKept f_book f_now f_places f_power f_spite f_signs f_pad f_offAt f_offWho f_reason f_acts _ _ hw) (cwV 0 hz (z_gV z4_89 z4_91 zp_30 z1_10 z4_92) rfl rfl rfl hd_X9_barOfTerms ⟨Nat.le_of_ble_eq_true rfl, Nat.le_of_ble_eq_true rfl⟩) hK hP hD [0, 1, 2, 3, 4] rfl rfl 0 9 rfl rfl rfl rfl hl.1 rfl (Nat.le_of_ble_eq_true rfl) dX9_behind_23 ⟨Nat.zero_le _, Nat.zero_le _⟩) hP hD hS hA [0, 1, 2, 3, 4] rfl (fun _ => rfl) (fun u => cw_X9_behind cI h h_book h_now h_places h_pad g_ways g_milky g_sights g_sight g_enough g_rows g_counts g_pours g_image g_isKept f_book u.1 f_places f_power f_spite f_signs f_pad u.2.1 u.2.2.1 u.2.2.2.1 u.2.2.2.2) (fun _ => rfl) (fun r23 u23 H locs hw hP hD hS => ?_)
      obtain ⟨u23_0, u23_1, u23_2, u23_3, u23_4⟩ := u23
      try dsimp only at hw
      have hP : va_P D vwCl (cw_X9_behind cI h h_book h_now h_places h_pad g_ways g_milky g_sights g_sight g_enough g_rows g_counts g_pours g_image g_isKept f_book u23_0 f_places f_power f_spite f_signs f_pad u23_1 u23_2 u23_3 u23_4) H := hP
      have hD : va_D A (cw_X9_behind cI h h_book h_now h_places h_pad g_ways g_milky g_sights g_sight g_enough g_rows g_counts g_pours g_image g_isKept f_book u23_0 f_places f_power f_spite f_signs f_pad u23_1 u23_2 u23_3 u23_4) := hD
      refine lv_if_ge (tgt := 32) hx hb dX9_behind_26 (by decide) (fun c26 => ?_) (fun c26 => ?_)
      · have hw := hw.1 c26
        refine lv_aload_n hx hb dX9_behind_32 rfl (lv_at hl 0 rfl) ?_
        refine lv_iload_n hx hb dX9_behind_33 rfl (lv_at hl 1 rfl) ?_
        refine z_ri (z_runV (As := [.int p1]) (rest := []) hF (c_X9_sits l D cI cC cZ h h_now (.ref h_book) (.ref h_places) (.int f_power) (.int f_spite) g_ways g_milky g_sights g_sight (.int f_signs) (.ref h_pad) (.int u23_1) (.int u23_2) (.int u23_3) (.int u23_4) g_enough g_rows g_counts g_pours g_image g_isKept u23_0 p1 _ _ hw) (cwV 1 hz (z_gV z4_38 z4_40 zp_19 z1_10 z4_41) rfl rfl rfl hd_X9_sits ⟨Nat.le_of_ble_eq_true rfl, Nat.le_of_ble_eq_true rfl⟩) hK hP hD [0, 2] rfl rfl 0 9 rfl rfl rfl rfl hl.1 rfl (Nat.le_of_ble_eq_true rfl) dX9_behind_34 ⟨Nat.zero_le _, Nat.zero_le _⟩) hP hD hS hA [0, 2] rfl (fun _ => rfl) (fun _ => cw_X9_behind cI h h_book h_now h_places h_pad g_ways g_milky g_sights g_sight g_enough g_rows g_counts g_pours g_image g_isKept f_book u23_0 f_places f_power f_spite f_signs f_pad u23_1 u23_2 u23_3 u23_4) (fun _ => rfl) (fun r34 u34 H locs hw hP hD hS => ?_)
        obtain ⟨hn34, hw⟩ := hw
        try dsimp only at hw
        refine lv_if_ne (tgt := 45) hx hb dX9_behind_37 (by decide) (fun c37 => ?_) (fun c37 => ?_)
        · have hw := hw.2 c37
          refine lv_iload_n hx hb dX9_behind_45 rfl (lv_at hl 2 rfl) ?_
          refine lv_if_ne (tgt := 58) hx hb dX9_behind_46 (by decide) (fun c46 => ?_) (fun c46 => ?_)
          · have hw := hw.2 c46
            refine lv_aload_n hx hb dX9_behind_58 rfl (lv_at hl 0 rfl) ?_
            refine va_get (D := D) (ci := 9) (v := .ref h_now) (C := RX9) (T := TX9) (N := 21) hx hb hz hX_X9 hown hK.1 hP 0 rfl rfl 1 (by decide) (hz _ z3_157) (fun _ h9 => h9) rfl dX9_behind_59 ?_
            refine lv_bipush (v := (9 : Int32)) hx hb dX9_behind_62 (by decide) ?_
            refine va_iald hx hb hK.1 hP 2 0 rfl rfl (z_in rfl) dX9_behind_64 ?_
            refine lv_iload_n hx hb dX9_behind_65 rfl (lv_at hl 1 rfl) ?_
            refine lv_ishr hx hb dX9_behind_66 ?_
            refine lv_iconst (v := (1 : Int32)) hx hb dX9_behind_67 (by decide) ?_
            refine lv_iand hx hb dX9_behind_68 ?_
            exact z_iret hx hb hr hlocks (u23_0, u23_1, u23_2, u23_3, u23_4) hw hP hS dX9_behind_69
          have hw := hw.1 c46
          refine lv_aload_n hx hb dX9_behind_49 rfl (lv_at hl 0 rfl) ?_
          refine va_get (D := D) (ci := 9) (v := .ref h_now) (C := RX9) (T := TX9) (N := 21) hx hb hz hX_X9 hown hK.1 hP 0 rfl rfl 1 (by decide) (hz _ z3_157) (fun _ h9 => h9) rfl dX9_behind_50 ?_
          refine lv_iload_n hx hb dX9_behind_53 rfl (lv_at hl 1 rfl) ?_
          obtain ⟨hi54, hw⟩ := hw
          refine va_iald hx hb hK.1 hP 2 0 rfl rfl hi54 dX9_behind_54 ?_
          refine lv_goto (tgt := 69) hx hb dX9_behind_55 (by decide) ?_
          exact z_iret hx hb hr hlocks (u23_0, u23_1, u23_2, u23_3, u23_4) hw hP hS dX9_behind_69
        have hw := hw.1 c37
        refine lv_bipush (v := (-6 : Int32)) hx hb dX9_behind_40 (by decide) ?_
        refine lv_goto (tgt := 69) hx hb dX9_behind_42 (by decide) ?_
        exact z_iret hx hb hr hlocks (u23_0, u23_1, u23_2, u23_3, u23_4) hw hP hS dX9_behind_69
      have hw := hw.2 c26
      refine lv_bipush (v := (-5 : Int32)) hx hb dX9_behind_29 (by decide) ?_
      exact z_iret hx hb hr hlocks (u23_0, u23_1, u23_2, u23_3, u23_4) hw hP hS dX9_behind_31
    have hw := hw.1 c16
    refine lv_bipush (v := (-2 : Int32)) hx hb dX9_behind_19 (by decide) ?_
    exact z_iret hx hb hr hlocks (f_now, f_offAt, f_offWho, f_reason, f_acts) hw hP hS dX9_behind_21
  have hw := hw.1 c5
  refine lv_iconst (v := (-1 : Int32)) hx hb dX9_behind_8 (by decide) ?_
  exact z_iret hx hb hr hlocks (f_now, f_offAt, f_offWho, f_reason, f_acts) hw hP hS dX9_behind_9
abbrev cw_X9_then (cI : ClassId) (h h_book h_now h_places h_pad : Nat) (g_ways g_milky g_sights g_sight g_enough g_rows g_counts g_pours g_image g_isKept : Value) (f_book : Nat → Int32) (f_now : Nat → Int32) (f_places : Nat → Int32) (f_power : Int32) (f_spite : Int32) (f_signs : Int32) (f_pad : Nat → Int32) (f_offAt : Int32) (f_offWho : Int32) (f_reason : Int32) (f_acts : Int32) : va_W := [(h, .inr (9, [.ref h_book, .ref h_now, .ref h_places, .int f_power, .int f_spite, g_ways, g_milky, g_sights, g_sight, .int f_signs, .ref h_pad, .int f_offAt, .int f_offWho, .int f_reason, .int f_acts, g_enough, g_rows, g_counts, g_pours, g_image, g_isKept])), (h_book, .inl (cI, 12, .inl f_book)), (h_now, .inl (cI, 12, .inl f_now)), (h_places, .inl (cI, 8, .inl f_places)), (h_pad, .inl (cI, 60, .inl f_pad))]
abbrev q_X9_then (D : va_G) (cI : ClassId) (h h_book h_now h_places h_pad : Nat) (g_ways g_milky g_sights g_sight g_enough g_rows g_counts g_pours g_image g_isKept : Value) (post : Int32 → (Nat → Int32) → Int32 → Int32 → Int32 → Int32 → Prop) (f_book : Nat → Int32) (f_places : Nat → Int32) (f_power : Int32) (f_spite : Int32) (f_signs : Int32) (f_pad : Nat → Int32) (A : Nat → Prop) : Array Value → State → Outcome → State → Prop := va_Qi (S := (Nat → Int32) × Int32 × Int32 × Int32 × Int32) (fun r u => post r u.1 u.2.1 u.2.2.1 u.2.2.2.1 u.2.2.2.2) (fun u t => va_P D vwCl (cw_X9_then cI h h_book h_now h_places h_pad g_ways g_milky g_sights g_sight g_enough g_rows g_counts g_pours g_image g_isKept f_book u.1 f_places f_power f_spite f_signs f_pad u.2.1 u.2.2.1 u.2.2.2.1 u.2.2.2.2) t.heap) A
abbrev v_X9_then : List Cond := .code yX9_then cX9_then 3 (some .int) :: zB
theorem hd_X9_then : yX9_then.cls = RX9 ∧ yX9_then.cls ≠ "java/lang/invoke/MethodHandle" ∧ yX9_then.cls ≠ "java/lang/invoke/VarHandle" ∧ (parseMethodDescriptor yX9_then.desc).map (fun d => d.parameters.length) = some 1 := by decide +kernel
set_option maxHeartbeats 4000000 in
set_option maxRecDepth 100000 in
theorem c_X9_then (l : Launch) (D : va_G) (cI cC cZ : ClassId) (h h_book h_now h_places h_pad : Nat) (g_ways g_milky g_sights g_sight g_enough g_rows g_counts g_pours g_image g_isKept : Value) (f_book : Nat → Int32) (f_now : Nat → Int32) (f_places : Nat → Int32) (f_power : Int32) (f_spite : Int32) (f_signs : Int32) (f_pad : Nat → Int32) (f_offAt : Int32) (f_offWho : Int32) (f_reason : Int32) (f_acts : Int32) (p1 : Int32) (sz : Nat) (post : Int32 → (Nat → Int32) → Int32 → Int32 → Int32 → Int32 → Prop) (hw : w_X9_then post f_book f_now f_places f_power f_spite f_signs f_pad f_offAt f_offWho f_reason f_acts p1) : Met l yX9_then v_X9_then ({ frames := 6, cells := 0, slots := 0, locals := 131 } : Room) (va_Pc [.ref h, .int p1] (zPre D (zT cI cC cZ) sz (cw_X9_then cI h h_book h_now h_places h_pad g_ways g_milky g_sights g_sight g_enough g_rows g_counts g_pours g_image g_isKept f_book f_now f_places f_power f_spite f_signs f_pad f_offAt f_offWho f_reason f_acts))) (q_X9_then D cI h h_book h_now h_places h_pad g_ways g_milky g_sights g_sight g_enough g_rows g_counts g_pours g_image g_isKept post f_book f_places f_power f_spite f_signs f_pad (va_A (cw_X9_then cI h h_book h_now h_places h_pad g_ways g_milky g_sights g_sight g_enough g_rows g_counts g_pours g_image g_isKept f_book f_now f_places f_power f_spite f_signs f_pad f_offAt f_offWho f_reason f_acts) sz)) 0 0 (va_A (cw_X9_then cI h h_book h_now h_places h_pad g_ways g_milky g_sights g_sight g_enough g_rows g_counts g_pours g_image g_isKept f_book f_now f_places f_power f_spite f_signs f_pad f_offAt f_offWho f_reason f_acts) sz) := by
  refine Met.ofW (cc := cX9_then) (maxL := 3) (ret := (some .int)) (by decide) rfl ?_
  intro p e s m args below meth c s₁ B hml hv
  obtain ⟨rfl, hsz, hP, hK, hD0⟩ := hv
  subst hsz
  have hx := B.exec
  have hb := B.bytes
  have hr := B.returns
  have hz : ∀ w ∈ zB, w.before _ s = true := fun w h => atoms_spec (ws := v_X9_then) B.pre w (List.mem_cons_of_mem _ h)
  have hown : s.vm.findClass RX9 = some m.cls := findClass_of_methodNamed B.named
  have hlocks := B.notSynchronized
  have hF : CallFix p m c cX9_then 3 s (([.ref h, .int p1] : List Value).toArray) zB RX9 := ⟨hx, hb, hml, hown, hz⟩
  have hD := hD0.self (sz := s.heap.size)
  generalize hAe : va_A (cw_X9_then cI h h_book h_now h_places h_pad g_ways g_milky g_sights g_sight g_enough g_rows g_counts g_pours g_image g_isKept f_book f_now f_places f_power f_spite f_signs f_pad f_offAt f_offWho f_reason f_acts) s.heap.size = A at hD ⊢
  have hA : ∀ q : Nat, s.heap.size ≤ q → A q := fun q h => by rw [← hAe]; exact Or.inr h
  have hS : va_S A s.heap s.heap [] := va_S.rf
  have hP : va_P D vwCl (cw_X9_then cI h h_book h_now h_places h_pad g_ways g_milky g_sights g_sight g_enough g_rows g_counts g_pours g_image g_isKept f_book f_now f_places f_power f_spite f_signs f_pad f_offAt f_offWho f_reason f_acts) s.heap := hP
  have hl := lv_entry ([.ref h, .int p1]) (n := 3) (Nat.le_of_ble_eq_true rfl)
  rw [lg_entry_eq]
  generalize (lg_sl ([.ref h, .int p1]) ++ List.replicate (3 - (lg_sl ([.ref h, .int p1])).length) Slot.unset).toArray = ls at hl ⊢
  have hl : lv_has ls 3 [(0, .ref h), (1, .int p1)] := hl
  have J104 : ∀ (f_now : Nat → Int32) (f_offAt : Int32) (f_offWho : Int32) (f_reason : Int32) (f_acts : Int32) (H : Heap) (locs : List Loc) (ls : Array Slot) (hw : w_X9_then_B104 post f_book f_places f_power f_spite f_signs f_pad p1 f_now f_offAt f_offWho f_reason f_acts) (hP : va_P D vwCl (cw_X9_then cI h h_book h_now h_places h_pad g_ways g_milky g_sights g_sight g_enough g_rows g_counts g_pours g_image g_isKept f_book f_now f_places f_power f_spite f_signs f_pad f_offAt f_offWho f_reason f_acts) H) (hD : va_D A (cw_X9_then cI h h_book h_now h_places h_pad g_ways g_milky g_sights g_sight g_enough g_rows g_counts g_pours g_image g_isKept f_book f_now f_places f_power f_spite f_signs f_pad f_offAt f_offWho f_reason f_acts)) (hS : va_S A s.heap H locs) (hl : lv_has ls 3 [(0, .ref h), (1, .int p1)]), W p l e (headSpec v_X9_then ({ frames := 6, cells := 0, slots := 0, locals := 131 } : Room)).room s m (([.ref h, .int p1] : List Value).toArray) below meth c H locs 0 0 (MQ below (q_X9_then D cI h h_book h_now h_places h_pad g_ways g_milky g_sights g_sight g_enough g_rows g_counts g_pours g_image g_isKept post f_book f_places f_power f_spite f_signs f_pad A) (([.ref h, .int p1] : List Value).toArray) s 0 0 A) (F0 m 104 ls []) := by
    intro f_now f_offAt f_offWho f_reason f_acts H locs ls hw hP hD hS hl
    unfold w_X9_then_B104 at hw
    refine lv_aload_n hx hb dX9_then_104 rfl (lv_at hl 0 rfl) ?_
    refine va_get (D := D) (ci := 9) (v := .ref h_now) (C := RX9) (T := TX9) (N := 21) hx hb hz hX_X9 hown hK.1 hP 0 rfl rfl 1 (by decide) (hz _ z3_157) (fun _ h9 => h9) rfl dX9_then_105 ?_
    refine lv_bipush (v := (7 : Int32)) hx hb dX9_then_108 (by decide) ?_
    refine lv_iload_n hx hb dX9_then_110 rfl (lv_at hl 1 rfl) ?_
    refine lv_iadd hx hb dX9_then_111 ?_
    obtain ⟨hi112, hw⟩ := hw
    refine va_iald hx hb hK.1 hP 2 0 rfl rfl hi112 dX9_then_112 ?_
    exact z_iret hx hb hr hlocks (f_now, f_offAt, f_offWho, f_reason, f_acts) hw hP hS dX9_then_113
  unfold w_X9_then at hw
  refine lv_iload_n hx hb dX9_then_0 rfl (lv_at hl 1 rfl) ?_
  refine lv_iconst (v := (0 : Int32)) hx hb dX9_then_1 (by decide) ?_
  refine lv_bipush (v := (6 : Int32)) hx hb dX9_then_2 (by decide) ?_
  refine z_ri (z_runS (As := [.int p1, .int (0 : Int32), .int (6 : Int32)]) (rest := []) hF (c_X9_in l D cI cC cZ p1 (0 : Int32) (6 : Int32) _ _ hw) (va_cwS 3 hz (z_gS z3_225 z3_226 z1_10 z3_227) rfl rfl rfl hd_X9_in ⟨Nat.le_of_ble_eq_true rfl, Nat.le_of_ble_eq_true rfl⟩) hK hP hD [] rfl rfl rfl hl.1 rfl (Nat.le_of_ble_eq_true rfl) dX9_then_4 ⟨Nat.zero_le _, Nat.zero_le _⟩) hP hD hS hA [] rfl (fun _ => rfl) (fun _ => cw_X9_then cI h h_book h_now h_places h_pad g_ways g_milky g_sights g_sight g_enough g_rows g_counts g_pours g_image g_isKept f_book f_now f_places f_power f_spite f_signs f_pad f_offAt f_offWho f_reason f_acts) (fun _ => rfl) (fun r4 u4 H locs hw hP hD hS => ?_)
  obtain ⟨hn4, hw⟩ := hw
  try dsimp only at hw
  refine lv_if_ne (tgt := 13) hx hb dX9_then_7 (by decide) (fun c7 => ?_) (fun c7 => ?_)
  · have hw := hw.2 c7
    refine lv_aload_n hx hb dX9_then_13 rfl (lv_at hl 0 rfl) ?_
    refine z_ri (z_runV (As := []) (rest := []) hF (c_X9_barOfTerms l D cI cC cZ h h_book h_now h_places h_pad g_ways g_milky g_sights g_sight g_enough g_rows g_counts g_pours g_image g_isKept f_book f_now f_places f_power f_spite f_signs f_pad f_offAt f_offWho f_reason f_acts _ _ hw) (cwV 0 hz (z_gV z4_89 z4_91 zp_30 z1_10 z4_92) rfl rfl rfl hd_X9_barOfTerms ⟨Nat.le_of_ble_eq_true rfl, Nat.le_of_ble_eq_true rfl⟩) hK hP hD [0, 1, 2, 3, 4] rfl rfl 0 9 rfl rfl rfl rfl hl.1 rfl (Nat.le_of_ble_eq_true rfl) dX9_then_14 ⟨Nat.zero_le _, Nat.zero_le _⟩) hP hD hS hA [0, 1, 2, 3, 4] rfl (fun _ => rfl) (fun u => cw_X9_then cI h h_book h_now h_places h_pad g_ways g_milky g_sights g_sight g_enough g_rows g_counts g_pours g_image g_isKept f_book u.1 f_places f_power f_spite f_signs f_pad u.2.1 u.2.2.1 u.2.2.2.1 u.2.2.2.2) (fun _ => rfl) (fun r14 u14 H locs hw hP hD hS => ?_)
    obtain ⟨u14_0, u14_1, u14_2, u14_3, u14_4⟩ := u14
    try dsimp only at hw
    have hP : va_P D vwCl (cw_X9_then cI h h_book h_now h_places h_pad g_ways g_milky g_sights g_sight g_enough g_rows g_counts g_pours g_image g_isKept f_book u14_0 f_places f_power f_spite f_signs f_pad u14_1 u14_2 u14_3 u14_4) H := hP
    have hD : va_D A (cw_X9_then cI h h_book h_now h_places h_pad g_ways g_milky g_sights g_sight g_enough g_rows g_counts g_pours g_image g_isKept f_book u14_0 f_places f_power f_spite f_signs f_pad u14_1 u14_2 u14_3 u14_4) := hD
    refine lv_if_ge (tgt := 23) hx hb dX9_then_17 (by decide) (fun c17 => ?_) (fun c17 => ?_)
    · have hw := hw.1 c17
      refine lv_aload_n hx hb dX9_then_23 rfl (lv_at hl 0 rfl) ?_
      refine z_ri (z_runV (As := []) (rest := []) hF (c_X9_offOnes l D cI cC cZ h h_now (.ref h_book) (.ref h_places) (.int f_power) (.int f_spite) g_ways g_milky g_sights g_sight (.int f_signs) (.ref h_pad) (.int u14_1) (.int u14_2) (.int u14_3) (.int u14_4) g_enough g_rows g_counts g_pours g_image g_isKept u14_0 _ _ hw) (cwV 0 hz (z_gV z4_34 z4_36 zp_18 z1_10 z4_37) rfl rfl rfl hd_X9_offOnes ⟨Nat.le_of_ble_eq_true rfl, Nat.le_of_ble_eq_true rfl⟩) hK hP hD [0, 2] rfl rfl 0 9 rfl rfl rfl rfl hl.1 rfl (Nat.le_of_ble_eq_true rfl) dX9_then_24 ⟨Nat.zero_le _, Nat.zero_le _⟩) hP hD hS hA [0, 2] rfl (fun _ => rfl) (fun _ => cw_X9_then cI h h_book h_now h_places h_pad g_ways g_milky g_sights g_sight g_enough g_rows g_counts g_pours g_image g_isKept f_book u14_0 f_places f_power f_spite f_signs f_pad u14_1 u14_2 u14_3 u14_4) (fun _ => rfl) (fun r24 u24 H locs hw hP hD hS => ?_)
      try dsimp only at hw
      refine lv_istore_n (lv' := [(2, .int r24), (0, .ref h), (1, .int p1)]) hx hb dX9_then_27 rfl hl (by decide) rfl (fun ls hl => ?_)
      refine lv_iload_n hx hb dX9_then_28 rfl (lv_at hl 2 rfl) ?_
      by_cases c29_0 : p1 = (0 : Int32)
      · have hw := hw.1 c29_0
        refine lv_tableIn (off := 35) (tgt := 64) hx hb dX9_then_29 (by rw [c29_0]; decide) (by rw [c29_0]; decide) (by rw [c29_0]; rfl) (by decide) ?_
        refine lv_iload_n hx hb dX9_then_64 rfl (lv_at hl 0 rfl) ?_
        exact z_iret hx hb hr hlocks (u14_0, u14_1, u14_2, u14_3, u14_4) hw hP hS dX9_then_65
      have hw := hw.2 c29_0
      have i29_0 : p1.toInt ≠ 0 := fun h => c29_0 (Int32.toInt_inj.mp (h.trans (by decide)))
      by_cases c29_1 : p1 = (1 : Int32)
      · have hw := hw.1 c29_1
        refine lv_tableIn (off := 37) (tgt := 66) hx hb dX9_then_29 (by rw [c29_1]; decide) (by rw [c29_1]; decide) (by rw [c29_1]; rfl) (by decide) ?_
        refine lv_aload_n hx hb dX9_then_66 rfl (lv_at hl 1 rfl) ?_
        refine va_get (D := D) (ci := 9) (v := .ref h_now) (C := RX9) (T := TX9) (N := 21) hx hb hz hX_X9 hown hK.1 hP 0 rfl rfl 1 (by decide) (hz _ z3_157) (fun _ h9 => h9) rfl dX9_then_67 ?_
        refine lv_bipush (v := (8 : Int32)) hx hb dX9_then_70 (by decide) ?_
        refine va_iald hx hb hK.1 hP 2 0 rfl rfl (z_in rfl) dX9_then_72 ?_
        refine lv_aload_n hx hb dX9_then_73 rfl (lv_at hl 1 rfl) ?_
        refine va_get (D := D) (ci := 9) (v := .ref h_now) (C := RX9) (T := TX9) (N := 21) hx hb hz hX_X9 hown hK.1 hP 0 rfl rfl 1 (by decide) (hz _ z3_157) (fun _ h9 => h9) rfl dX9_then_74 ?_
        refine lv_bipush (v := (9 : Int32)) hx hb dX9_then_77 (by decide) ?_
        refine va_iald hx hb hK.1 hP 2 0 rfl rfl (z_in rfl) dX9_then_79 ?_
        refine lv_iand hx hb dX9_then_80 ?_
        refine lv_iload_n hx hb dX9_then_81 rfl (lv_at hl 0 rfl) ?_
        refine lv_iconst (v := (-1 : Int32)) hx hb dX9_then_82 (by decide) ?_
        refine lv_ixor hx hb dX9_then_83 ?_
        refine lv_iand hx hb dX9_then_84 ?_
        refine z_ri (z_runS (As := [.int (((u14_0 (8 : Int32).toNatClampNeg) &&& (u14_0 (9 : Int32).toNatClampNeg)) &&& (r24 ^^^ (-1 : Int32)))]) (rest := []) hF (c_X9_bits l D cI cC cZ (((u14_0 (8 : Int32).toNatClampNeg) &&& (u14_0 (9 : Int32).toNatClampNeg)) &&& (r24 ^^^ (-1 : Int32))) _ _ hw) (va_cwS 1 hz (z_gS z3_228 z3_229 z1_10 z3_230) rfl rfl rfl hd_X9_bits ⟨Nat.le_of_ble_eq_true rfl, Nat.le_of_ble_eq_true rfl⟩) hK hP hD [] rfl rfl rfl hl.1 rfl (Nat.le_of_ble_eq_true rfl) dX9_then_85 ⟨Nat.zero_le _, Nat.zero_le _⟩) hP hD hS hA [] rfl (fun _ => rfl) (fun _ => cw_X9_then cI h h_book h_now h_places h_pad g_ways g_milky g_sights g_sight g_enough g_rows g_counts g_pours g_image g_isKept f_book u14_0 f_places f_power f_spite f_signs f_pad u14_1 u14_2 u14_3 u14_4) (fun _ => rfl) (fun r85 u85 H locs hw hP hD hS => ?_)
        try dsimp only at hw
        exact z_iret hx hb hr hlocks (u14_0, u14_1, u14_2, u14_3, u14_4) hw hP hS dX9_then_88
      have hw := hw.2 c29_1
      have i29_1 : p1.toInt ≠ 1 := fun h => c29_1 (Int32.toInt_inj.mp (h.trans (by decide)))
      by_cases c29_2 : p1 = (2 : Int32)
      · have hw := hw.1 c29_2
        refine lv_tableIn (off := 60) (tgt := 89) hx hb dX9_then_29 (by rw [c29_2]; decide) (by rw [c29_2]; decide) (by rw [c29_2]; rfl) (by decide) ?_
        refine lv_iload_n hx hb dX9_then_89 rfl (lv_at hl 0 rfl) ?_
        refine lv_aload_n hx hb dX9_then_90 rfl (lv_at hl 1 rfl) ?_
        refine va_get (D := D) (ci := 9) (v := .ref h_now) (C := RX9) (T := TX9) (N := 21) hx hb hz hX_X9 hown hK.1 hP 0 rfl rfl 1 (by decide) (hz _ z3_157) (fun _ h9 => h9) rfl dX9_then_91 ?_
        refine lv_bipush (v := (9 : Int32)) hx hb dX9_then_94 (by decide) ?_
        refine va_iald hx hb hK.1 hP 2 0 rfl rfl (z_in rfl) dX9_then_96 ?_
        refine lv_iconst (v := (-1 : Int32)) hx hb dX9_then_97 (by decide) ?_
        refine lv_ixor hx hb dX9_then_98 ?_
        refine lv_iand hx hb dX9_then_99 ?_
        refine z_ri (z_runS (As := [.int (r24 &&& ((u14_0 (9 : Int32).toNatClampNeg) ^^^ (-1 : Int32)))]) (rest := []) hF (c_X9_bits l D cI cC cZ (r24 &&& ((u14_0 (9 : Int32).toNatClampNeg) ^^^ (-1 : Int32))) _ _ hw) (va_cwS 1 hz (z_gS z3_228 z3_229 z1_10 z3_230) rfl rfl rfl hd_X9_bits ⟨Nat.le_of_ble_eq_true rfl, Nat.le_of_ble_eq_true rfl⟩) hK hP hD [] rfl rfl rfl hl.1 rfl (Nat.le_of_ble_eq_true rfl) dX9_then_100 ⟨Nat.zero_le _, Nat.zero_le _⟩) hP hD hS hA [] rfl (fun _ => rfl) (fun _ => cw_X9_then cI h h_book h_now h_places h_pad g_ways g_milky g_sights g_sight g_enough g_rows g_counts g_pours g_image g_isKept f_book u14_0 f_places f_power f_spite f_signs f_pad u14_1 u14_2 u14_3 u14_4) (fun _ => rfl) (fun r100 u100 H locs hw hP hD hS => ?_)
        try dsimp only at hw
        exact z_iret hx hb hr hlocks (u14_0, u14_1, u14_2, u14_3, u14_4) hw hP hS dX9_then_103
      have hw := hw.2 c29_2
      have i29_2 : p1.toInt ≠ 2 := fun h => c29_2 (Int32.toInt_inj.mp (h.trans (by decide)))
      by_cases c29_3 : p1 = (3 : Int32)
      · have hw := hw.1 c29_3
        refine lv_tableIn (off := 75) (tgt := 104) hx hb dX9_then_29 (by rw [c29_3]; decide) (by rw [c29_3]; decide) (by rw [c29_3]; rfl) (by decide) ?_
        exact J104 u14_0 u14_1 u14_2 u14_3 u14_4 _ _ _ hw hP hD hS (lv_sub hl [1, 2] rfl)
      have hw := hw.2 c29_3
      have i29_3 : p1.toInt ≠ 3 := fun h => c29_3 (Int32.toInt_inj.mp (h.trans (by decide)))
      by_cases c29_4 : p1 = (4 : Int32)
      · have hw := hw.1 c29_4
        refine lv_tableIn (off := 75) (tgt := 104) hx hb dX9_then_29 (by rw [c29_4]; decide) (by rw [c29_4]; decide) (by rw [c29_4]; rfl) (by decide) ?_
        exact J104 u14_0 u14_1 u14_2 u14_3 u14_4 _ _ _ hw hP hD hS (lv_sub hl [1, 2] rfl)
      have hw := hw.2 c29_4
      have i29_4 : p1.toInt ≠ 4 := fun h => c29_4 (Int32.toInt_inj.mp (h.trans (by decide)))
      refine lv_tableOut (tgt := 114) hx hb dX9_then_29 (by omega) (by decide) ?_
      refine lv_iload_n hx hb dX9_then_114 rfl (lv_at hl 2 rfl) ?_
      refine lv_iconst (v := (5 : Int32)) hx hb dX9_then_115 (by decide) ?_
      refine lv_icmp_ne (tgt := 126) hx hb dX9_then_116 (by decide) (fun c116 => ?_) (fun c116 => ?_)
      · have hw := hw.2 c116
        refine lv_aload_n hx hb dX9_then_126 rfl (lv_at hl 1 rfl) ?_
        refine va_get (D := D) (ci := 9) (v := .int u14_2) (C := RX9) (T := TX9) (N := 21) hx hb hz hX_X9 hown hK.1 hP 0 rfl rfl 12 (by decide) (hz _ z3_168) (fun _ h9 => h9) rfl dX9_then_127 ?_
        exact z_iret hx hb hr hlocks (u14_0, u14_1, u14_2, u14_3, u14_4) hw hP hS dX9_then_130
      have hw := hw.1 c116
      refine lv_aload_n hx hb dX9_then_119 rfl (lv_at hl 1 rfl) ?_
      refine va_get (D := D) (ci := 9) (v := .int u14_1) (C := RX9) (T := TX9) (N := 21) hx hb hz hX_X9 hown hK.1 hP 0 rfl rfl 11 (by decide) (hz _ z3_167) (fun _ h9 => h9) rfl dX9_then_120 ?_
      refine lv_goto (tgt := 130) hx hb dX9_then_123 (by decide) ?_
      exact z_iret hx hb hr hlocks (u14_0, u14_1, u14_2, u14_3, u14_4) hw hP hS dX9_then_130
    have hw := hw.2 c17
    refine lv_bipush (v := (-5 : Int32)) hx hb dX9_then_20 (by decide) ?_
    exact z_iret hx hb hr hlocks (u14_0, u14_1, u14_2, u14_3, u14_4) hw hP hS dX9_then_22
  have hw := hw.1 c7
  refine lv_bipush (v := (-2 : Int32)) hx hb dX9_then_10 (by decide) ?_
  exact z_iret hx hb hr hlocks (f_now, f_offAt, f_offWho, f_reason, f_acts) hw hP hS dX9_then_12
abbrev cw_X9_lasts (cI : ClassId) (h h_book h_now h_places : Nat) (g_ways g_milky g_sights g_sight g_signs g_pad g_reason g_acts g_enough g_rows g_counts g_pours g_image g_isKept : Value) (f_book : Nat → Int32) (f_now : Nat → Int32) (f_places : Nat → Int32) (f_power : Int32) (f_spite : Int32) (f_offAt : Int32) (f_offWho : Int32) : va_W := [(h, .inr (9, [.ref h_book, .ref h_now, .ref h_places, .int f_power, .int f_spite, g_ways, g_milky, g_sights, g_sight, g_signs, g_pad, .int f_offAt, .int f_offWho, g_reason, g_acts, g_enough, g_rows, g_counts, g_pours, g_image, g_isKept])), (h_book, .inl (cI, 12, .inl f_book)), (h_now, .inl (cI, 12, .inl f_now)), (h_places, .inl (cI, 8, .inl f_places))]
abbrev q_X9_lasts (D : va_G) (cI : ClassId) (h h_book h_now h_places : Nat) (g_ways g_milky g_sights g_sight g_signs g_pad g_reason g_acts g_enough g_rows g_counts g_pours g_image g_isKept : Value) (post : Int32 → (Nat → Int32) → Int32 → Int32 → Prop) (f_book : Nat → Int32) (f_places : Nat → Int32) (f_power : Int32) (f_spite : Int32) (A : Nat → Prop) : Array Value → State → Outcome → State → Prop := va_Qi (S := (Nat → Int32) × Int32 × Int32) (fun r u => post r u.1 u.2.1 u.2.2) (fun u t => va_P D vwCl (cw_X9_lasts cI h h_book h_now h_places g_ways g_milky g_sights g_sight g_signs g_pad g_reason g_acts g_enough g_rows g_counts g_pours g_image g_isKept f_book u.1 f_places f_power f_spite u.2.1 u.2.2) t.heap) A
abbrev v_X9_lasts : List Cond := .code yX9_lasts cX9_lasts 3 (some .int) :: zB
theorem hd_X9_lasts : yX9_lasts.cls = RX9 ∧ yX9_lasts.cls ≠ "java/lang/invoke/MethodHandle" ∧ yX9_lasts.cls ≠ "java/lang/invoke/VarHandle" ∧ (parseMethodDescriptor yX9_lasts.desc).map (fun d => d.parameters.length) = some 1 := by decide +kernel
set_option maxHeartbeats 4000000 in
set_option maxRecDepth 100000 in
theorem c_X9_lasts (l : Launch) (D : va_G) (cI cC cZ : ClassId) (h h_book h_now h_places : Nat) (g_ways g_milky g_sights g_sight g_signs g_pad g_reason g_acts g_enough g_rows g_counts g_pours g_image g_isKept : Value) (f_book : Nat → Int32) (f_now : Nat → Int32) (f_places : Nat → Int32) (f_power : Int32) (f_spite : Int32) (f_offAt : Int32) (f_offWho : Int32) (p1 : Int32) (sz : Nat) (post : Int32 → (Nat → Int32) → Int32 → Int32 → Prop) (hw : w_X9_lasts post f_book f_now f_places f_power f_spite f_offAt f_offWho p1) : Met l yX9_lasts v_X9_lasts ({ frames := 2, cells := 0, slots := 0, locals := 43 } : Room) (va_Pc [.ref h, .int p1] (zPre D (zT cI cC cZ) sz (cw_X9_lasts cI h h_book h_now h_places g_ways g_milky g_sights g_sight g_signs g_pad g_reason g_acts g_enough g_rows g_counts g_pours g_image g_isKept f_book f_now f_places f_power f_spite f_offAt f_offWho))) (q_X9_lasts D cI h h_book h_now h_places g_ways g_milky g_sights g_sight g_signs g_pad g_reason g_acts g_enough g_rows g_counts g_pours g_image g_isKept post f_book f_places f_power f_spite (va_A (cw_X9_lasts cI h h_book h_now h_places g_ways g_milky g_sights g_sight g_signs g_pad g_reason g_acts g_enough g_rows g_counts g_pours g_image g_isKept f_book f_now f_places f_power f_spite f_offAt f_offWho) sz)) 0 0 (va_A (cw_X9_lasts cI h h_book h_now h_places g_ways g_milky g_sights g_sight g_signs g_pad g_reason g_acts g_enough g_rows g_counts g_pours g_image g_isKept f_book f_now f_places f_power f_spite f_offAt f_offWho) sz) := by
  refine Met.ofW (cc := cX9_lasts) (maxL := 3) (ret := (some .int)) (by decide) rfl ?_
  intro p e s m args below meth c s₁ B hml hv
  obtain ⟨rfl, hsz, hP, hK, hD0⟩ := hv
  subst hsz
  have hx := B.exec
  have hb := B.bytes
  have hr := B.returns
  have hz : ∀ w ∈ zB, w.before _ s = true := fun w h => atoms_spec (ws := v_X9_lasts) B.pre w (List.mem_cons_of_mem _ h)
  have hown : s.vm.findClass RX9 = some m.cls := findClass_of_methodNamed B.named
  have hlocks := B.notSynchronized
  have hF : CallFix p m c cX9_lasts 3 s (([.ref h, .int p1] : List Value).toArray) zB RX9 := ⟨hx, hb, hml, hown, hz⟩
  have hD := hD0.self (sz := s.heap.size)
  generalize hAe : va_A (cw_X9_lasts cI h h_book h_now h_places g_ways g_milky g_sights g_sight g_signs g_pad g_reason g_acts g_enough g_rows g_counts g_pours g_image g_isKept f_book f_now f_places f_power f_spite f_offAt f_offWho) s.heap.size = A at hD ⊢
  have hA : ∀ q : Nat, s.heap.size ≤ q → A q := fun q h => by rw [← hAe]; exact Or.inr h
  have hS : va_S A s.heap s.heap [] := va_S.rf
  have hP : va_P D vwCl (cw_X9_lasts cI h h_book h_now h_places g_ways g_milky g_sights g_sight g_signs g_pad g_reason g_acts g_enough g_rows g_counts g_pours g_image g_isKept f_book f_now f_places f_power f_spite f_offAt f_offWho) s.heap := hP
  have hl := lv_entry ([.ref h, .int p1]) (n := 3) (Nat.le_of_ble_eq_true rfl)
  rw [lg_entry_eq]
  generalize (lg_sl ([.ref h, .int p1]) ++ List.replicate (3 - (lg_sl ([.ref h, .int p1])).length) Slot.unset).toArray = ls at hl ⊢
  have hl : lv_has ls 3 [(0, .ref h), (1, .int p1)] := hl
  unfold w_X9_lasts at hw
  refine lv_aload_n hx hb dX9_lasts_0 rfl (lv_at hl 0 rfl) ?_
  refine lv_iload_n hx hb dX9_lasts_1 rfl (lv_at hl 1 rfl) ?_
  refine z_ri (z_runV (As := [.int p1]) (rest := []) hF (c_X9_isThere l D cI cC cZ h h_book (.ref h_now) (.ref h_places) (.int f_power) (.int f_spite) g_ways g_milky g_sights g_sight g_signs g_pad (.int f_offAt) (.int f_offWho) g_reason g_acts g_enough g_rows g_counts g_pours g_image g_isKept f_book p1 _ _ hw) (cwV 1 hz (z_gV z4_97 z4_99 zp_31 z1_10 z4_100) rfl rfl rfl hd_X9_isThere ⟨Nat.le_of_ble_eq_true rfl, Nat.le_of_ble_eq_true rfl⟩) hK hP hD [0, 1] rfl rfl 0 9 rfl rfl rfl rfl hl.1 rfl (Nat.le_of_ble_eq_true rfl) dX9_lasts_2 ⟨Nat.zero_le _, Nat.zero_le _⟩) hP hD hS hA [0, 1] rfl (fun _ => rfl) (fun _ => cw_X9_lasts cI h h_book h_now h_places g_ways g_milky g_sights g_sight g_signs g_pad g_reason g_acts g_enough g_rows g_counts g_pours g_image g_isKept f_book f_now f_places f_power f_spite f_offAt f_offWho) (fun _ => rfl) (fun r2 u2 H locs hw hP hD hS => ?_)
  obtain ⟨hn2, hw⟩ := hw
  try dsimp only at hw
  refine lv_if_ne (tgt := 10) hx hb dX9_lasts_5 (by decide) (fun c5 => ?_) (fun c5 => ?_)
  · have hw := hw.2 c5
    refine lv_aload_n hx hb dX9_lasts_10 rfl (lv_at hl 0 rfl) ?_
    refine z_rv (z_runV (As := []) (rest := []) hF (c_X9_asNow l D cI cC cZ h h_book h_now (.ref h_places) (.int f_power) (.int f_spite) g_ways g_milky g_sights g_sight g_signs g_pad g_reason g_acts g_enough g_rows g_counts g_pours g_image g_isKept f_book f_now f_offAt f_offWho _ _ hw) (cwV 0 hz (z_gV z4_30 z4_32 zp_17 z1_10 z4_33) rfl rfl rfl hd_X9_asNow ⟨Nat.le_of_ble_eq_true rfl, Nat.le_of_ble_eq_true rfl⟩) hK hP hD [0, 1, 2] rfl rfl 0 9 rfl rfl rfl rfl hl.1 rfl (Nat.le_of_ble_eq_true rfl) dX9_lasts_11 ⟨Nat.zero_le _, Nat.zero_le _⟩) hP hD hS hA [0, 1, 2] rfl (fun _ => rfl) (fun u => cw_X9_lasts cI h h_book h_now h_places g_ways g_milky g_sights g_sight g_signs g_pad g_reason g_acts g_enough g_rows g_counts g_pours g_image g_isKept f_book u.1 f_places f_power f_spite u.2.1 u.2.2) (fun _ => rfl) (fun u11 H locs hw hP hD hS => ?_)
    obtain ⟨u11_0, u11_1, u11_2⟩ := u11
    try dsimp only at hw
    have hP : va_P D vwCl (cw_X9_lasts cI h h_book h_now h_places g_ways g_milky g_sights g_sight g_signs g_pad g_reason g_acts g_enough g_rows g_counts g_pours g_image g_isKept f_book u11_0 f_places f_power f_spite u11_1 u11_2) H := hP
    have hD : va_D A (cw_X9_lasts cI h h_book h_now h_places g_ways g_milky g_sights g_sight g_signs g_pad g_reason g_acts g_enough g_rows g_counts g_pours g_image g_isKept f_book u11_0 f_places f_power f_spite u11_1 u11_2) := hD
    refine lv_aload_n hx hb dX9_lasts_14 rfl (lv_at hl 0 rfl) ?_
    refine lv_iload_n hx hb dX9_lasts_15 rfl (lv_at hl 1 rfl) ?_
    refine z_ri (z_runV (As := [.int p1]) (rest := []) hF (c_X9_hourly l D cI cC cZ h h_now h_places (.ref h_book) g_ways g_milky g_sights g_sight g_signs g_pad (.int u11_1) (.int u11_2) g_reason g_acts g_enough g_rows g_counts g_pours g_image g_isKept u11_0 f_places f_power f_spite p1 _ _ hw) (cwV 1 hz (z_gV z4_49 z4_51 zp_21 z1_10 z4_52) rfl rfl rfl hd_X9_hourly ⟨Nat.le_of_ble_eq_true rfl, Nat.le_of_ble_eq_true rfl⟩) hK hP hD [0, 2, 3] rfl rfl 0 9 rfl rfl rfl rfl hl.1 rfl (Nat.le_of_ble_eq_true rfl) dX9_lasts_16 ⟨Nat.zero_le _, Nat.zero_le _⟩) hP hD hS hA [0, 2, 3] rfl (fun _ => rfl) (fun _ => cw_X9_lasts cI h h_book h_now h_places g_ways g_milky g_sights g_sight g_signs g_pad g_reason g_acts g_enough g_rows g_counts g_pours g_image g_isKept f_book u11_0 f_places f_power f_spite u11_1 u11_2) (fun _ => rfl) (fun r16 u16 H locs hw hP hD hS => ?_)
    try dsimp only at hw
    refine lv_istore_n (lv' := [(2, .int r16), (0, .ref h), (1, .int p1)]) hx hb dX9_lasts_19 rfl hl (by decide) rfl (fun ls hl => ?_)
    refine lv_aload_n hx hb dX9_lasts_20 rfl (lv_at hl 1 rfl) ?_
    refine va_get (D := D) (ci := 9) (v := .ref h_now) (C := RX9) (T := TX9) (N := 21) hx hb hz hX_X9 hown hK.1 hP 0 rfl rfl 1 (by decide) (hz _ z3_157) (fun _ h9 => h9) rfl dX9_lasts_21 ?_
    refine lv_iload_n hx hb dX9_lasts_24 rfl (lv_at hl 2 rfl) ?_
    obtain ⟨hi25, hw⟩ := hw
    refine va_iald hx hb hK.1 hP 2 0 rfl rfl hi25 dX9_lasts_25 ?_
    refine lv_if_ne (tgt := 33) hx hb dX9_lasts_26 (by decide) (fun c26 => ?_) (fun c26 => ?_)
    · have hw := hw.2 c26
      refine lv_iload_n hx hb dX9_lasts_33 rfl (lv_at hl 0 rfl) ?_
      refine lv_if_ne (tgt := 42) hx hb dX9_lasts_34 (by decide) (fun c34 => ?_) (fun c34 => ?_)
      · have hw := hw.2 c34
        refine lv_aload_n hx hb dX9_lasts_42 rfl (lv_at hl 1 rfl) ?_
        refine va_get (D := D) (ci := 9) (v := .ref h_now) (C := RX9) (T := TX9) (N := 21) hx hb hz hX_X9 hown hK.1 hP 0 rfl rfl 1 (by decide) (hz _ z3_157) (fun _ h9 => h9) rfl dX9_lasts_43 ?_
        refine lv_iload_n hx hb dX9_lasts_46 rfl (lv_at hl 2 rfl) ?_
        obtain ⟨hi47, hw⟩ := hw
        refine va_iald hx hb hK.1 hP 2 0 rfl rfl hi47 dX9_lasts_47 ?_
        refine lv_iload_n hx hb dX9_lasts_48 rfl (lv_at hl 0 rfl) ?_
        refine lv_iadd hx hb dX9_lasts_49 ?_
        refine lv_iconst (v := (1 : Int32)) hx hb dX9_lasts_50 (by decide) ?_
        refine lv_isub hx hb dX9_lasts_51 ?_
        refine lv_iload_n hx hb dX9_lasts_52 rfl (lv_at hl 0 rfl) ?_
        obtain ⟨hz53, hw⟩ := hw
        refine lv_idiv hx hb dX9_lasts_53 hz53 ?_
        exact z_iret hx hb hr hlocks (u11_0, u11_1, u11_2) hw hP hS dX9_lasts_54
      have hw := hw.1 c34
      refine lv_bipush (v := (-6 : Int32)) hx hb dX9_lasts_37 (by decide) ?_
      refine lv_goto (tgt := 54) hx hb dX9_lasts_39 (by decide) ?_
      exact z_iret hx hb hr hlocks (u11_0, u11_1, u11_2) hw hP hS dX9_lasts_54
    have hw := hw.1 c26
    refine lv_iconst (v := (0 : Int32)) hx hb dX9_lasts_29 (by decide) ?_
    refine lv_goto (tgt := 54) hx hb dX9_lasts_30 (by decide) ?_
    exact z_iret hx hb hr hlocks (u11_0, u11_1, u11_2) hw hP hS dX9_lasts_54
  have hw := hw.1 c5
  refine lv_iconst (v := (-1 : Int32)) hx hb dX9_lasts_8 (by decide) ?_
  exact z_iret hx hb hr hlocks (f_now, f_offAt, f_offWho) hw hP hS dX9_lasts_9
abbrev cw_X9_trials (cI : ClassId) (h h_enough : Nat) (g_book g_now g_places g_power g_spite g_ways g_milky g_sights g_sight g_signs g_pad g_offAt g_offWho g_reason g_acts g_rows g_counts g_pours g_image g_isKept : Value) (f_enough : Nat → Int32) : va_W := [(h, .inr (9, [g_book, g_now, g_places, g_power, g_spite, g_ways, g_milky, g_sights, g_sight, g_signs, g_pad, g_offAt, g_offWho, g_reason, g_acts, .ref h_enough, g_rows, g_counts, g_pours, g_image, g_isKept])), (h_enough, .inl (cI, 100, .inl f_enough))]
abbrev q_X9_trials (D : va_G) (cI : ClassId) (h h_enough : Nat) (g_book g_now g_places g_power g_spite g_ways g_milky g_sights g_sight g_signs g_pad g_offAt g_offWho g_reason g_acts g_rows g_counts g_pours g_image g_isKept : Value) (post : Int32 → (Nat → Int32) → Prop) (A : Nat → Prop) : Array Value → State → Outcome → State → Prop := va_Qi (S := (Nat → Int32)) (fun r u => post r u) (fun u t => va_P D vwCl (cw_X9_trials cI h h_enough g_book g_now g_places g_power g_spite g_ways g_milky g_sights g_sight g_signs g_pad g_offAt g_offWho g_reason g_acts g_rows g_counts g_pours g_image g_isKept u) t.heap) A
abbrev v_X9_trials : List Cond := .code yX9_trials cX9_trials 9 (some .int) :: zB
theorem hd_X9_trials : yX9_trials.cls = RX9 ∧ yX9_trials.cls ≠ "java/lang/invoke/MethodHandle" ∧ yX9_trials.cls ≠ "java/lang/invoke/VarHandle" ∧ (parseMethodDescriptor yX9_trials.desc).map (fun d => d.parameters.length) = some 3 := by decide +kernel
set_option maxHeartbeats 4000000 in
set_option maxRecDepth 100000 in
theorem c_X9_trials (l : Launch) (D : va_G) (cI cC cZ : ClassId) (h h_enough : Nat) (g_book g_now g_places g_power g_spite g_ways g_milky g_sights g_sight g_signs g_pad g_offAt g_offWho g_reason g_acts g_rows g_counts g_pours g_image g_isKept : Value) (f_enough : Nat → Int32) (p1 : Int32) (p2 : Int32) (p3 : Int32) (sz : Nat) (post : Int32 → (Nat → Int32) → Prop) (hw : w_X9_trials post f_enough p1 p2 p3) : Met l yX9_trials v_X9_trials ({ frames := 1, cells := 0, slots := 0, locals := 22 } : Room) (va_Pc [.ref h, .int p1, .int p2, .int p3] (zPre D (zT cI cC cZ) sz (cw_X9_trials cI h h_enough g_book g_now g_places g_power g_spite g_ways g_milky g_sights g_sight g_signs g_pad g_offAt g_offWho g_reason g_acts g_rows g_counts g_pours g_image g_isKept f_enough))) (q_X9_trials D cI h h_enough g_book g_now g_places g_power g_spite g_ways g_milky g_sights g_sight g_signs g_pad g_offAt g_offWho g_reason g_acts g_rows g_counts g_pours g_image g_isKept post (va_A (cw_X9_trials cI h h_enough g_book g_now g_places g_power g_spite g_ways g_milky g_sights g_sight g_signs g_pad g_offAt g_offWho g_reason g_acts g_rows g_counts g_pours g_image g_isKept f_enough) sz)) 0 0 (va_A (cw_X9_trials cI h h_enough g_book g_now g_places g_power g_spite g_ways g_milky g_sights g_sight g_signs g_pad g_offAt g_offWho g_reason g_acts g_rows g_counts g_pours g_image g_isKept f_enough) sz) := by
  refine Met.ofW (cc := cX9_trials) (maxL := 9) (ret := (some .int)) (by decide) rfl ?_
  intro p e s m args below meth c s₁ B hml hv
  obtain ⟨rfl, hsz, hP, hK, hD0⟩ := hv
  subst hsz
  have hx := B.exec
  have hb := B.bytes
  have hr := B.returns
  have hz : ∀ w ∈ zB, w.before _ s = true := fun w h => atoms_spec (ws := v_X9_trials) B.pre w (List.mem_cons_of_mem _ h)
  have hown : s.vm.findClass RX9 = some m.cls := findClass_of_methodNamed B.named
  have hlocks := B.notSynchronized
  have hF : CallFix p m c cX9_trials 9 s (([.ref h, .int p1, .int p2, .int p3] : List Value).toArray) zB RX9 := ⟨hx, hb, hml, hown, hz⟩
  have hD := hD0.self (sz := s.heap.size)
  generalize hAe : va_A (cw_X9_trials cI h h_enough g_book g_now g_places g_power g_spite g_ways g_milky g_sights g_sight g_signs g_pad g_offAt g_offWho g_reason g_acts g_rows g_counts g_pours g_image g_isKept f_enough) s.heap.size = A at hD ⊢
  have hA : ∀ q : Nat, s.heap.size ≤ q → A q := fun q h => by rw [← hAe]; exact Or.inr h
  have hS : va_S A s.heap s.heap [] := va_S.rf
  have hP : va_P D vwCl (cw_X9_trials cI h h_enough g_book g_now g_places g_power g_spite g_ways g_milky g_sights g_sight g_signs g_pad g_offAt g_offWho g_reason g_acts g_rows g_counts g_pours g_image g_isKept f_enough) s.heap := hP
  have hl := lv_entry ([.ref h, .int p1, .int p2, .int p3]) (n := 9) (Nat.le_of_ble_eq_true rfl)
  rw [lg_entry_eq]
  generalize (lg_sl ([.ref h, .int p1, .int p2, .int p3]) ++ List.replicate (9 - (lg_sl ([.ref h, .int p1, .int p2, .int p3])).length) Slot.unset).toArray = ls at hl ⊢
  have hl : lv_has ls 9 [(0, .ref h), (1, .int p1), (2, .int p2), (3, .int p3)] := hl
  have L39 : ∀ (n39 : Nat) (f_enough : Nat → Int32) (x4 : Int32) (x5 : Int32) (H : Heap) (locs : List Loc) (ls : Array Slot) (hw : w_X9_trials_B39 post p1 p2 p3 n39 f_enough x4 x5) (hP : va_P D vwCl (cw_X9_trials cI h h_enough g_book g_now g_places g_power g_spite g_ways g_milky g_sights g_sight g_signs g_pad g_offAt g_offWho g_reason g_acts g_rows g_counts g_pours g_image g_isKept f_enough) H) (hD : va_D A (cw_X9_trials cI h h_enough g_book g_now g_places g_power g_spite g_ways g_milky g_sights g_sight g_signs g_pad g_offAt g_offWho g_reason g_acts g_rows g_counts g_pours g_image g_isKept f_enough)) (hS : va_S A s.heap H locs) (hl : lv_has ls 9 [(0, .ref h), (1, .int p1), (2, .int p2), (3, .int p3), (4, .int x4), (5, .int x5)]), W p l e (headSpec v_X9_trials ({ frames := 1, cells := 0, slots := 0, locals := 22 } : Room)).room s m (([.ref h, .int p1, .int p2, .int p3] : List Value).toArray) below meth c H locs 0 0 (MQ below (q_X9_trials D cI h h_enough g_book g_now g_places g_power g_spite g_ways g_milky g_sights g_sight g_signs g_pad g_offAt g_offWho g_reason g_acts g_rows g_counts g_pours g_image g_isKept post A) (([.ref h, .int p1, .int p2, .int p3] : List Value).toArray) s 0 0 A) (F0 m 39 ls []) := by
    intro n39
    induction n39 with
    | zero => intro f_enough x4 x5 H locs ls hw; exact False.elim hw
    | succ n39 ih39 =>
      have J161 : ∀ (f_enough : Nat → Int32) (x4 : Int32) (x5 : Int32) (x6 : Int32) (H : Heap) (locs : List Loc) (ls : Array Slot) (hw : w_X9_trials_B161 post p1 p2 p3 (fun f_enough x4 x5 => w_X9_trials_B39 post p1 p2 p3 n39 f_enough x4 x5) f_enough x4 x5 x6) (hP : va_P D vwCl (cw_X9_trials cI h h_enough g_book g_now g_places g_power g_spite g_ways g_milky g_sights g_sight g_signs g_pad g_offAt g_offWho g_reason g_acts g_rows g_counts g_pours g_image g_isKept f_enough) H) (hD : va_D A (cw_X9_trials cI h h_enough g_book g_now g_places g_power g_spite g_ways g_milky g_sights g_sight g_signs g_pad g_offAt g_offWho g_reason g_acts g_rows g_counts g_pours g_image g_isKept f_enough)) (hS : va_S A s.heap H locs) (hl : lv_has ls 9 [(0, .ref h), (1, .int p1), (2, .int p2), (3, .int p3), (4, .int x4), (5, .int x5), (6, .int x6)]), W p l e (headSpec v_X9_trials ({ frames := 1, cells := 0, slots := 0, locals := 22 } : Room)).room s m (([.ref h, .int p1, .int p2, .int p3] : List Value).toArray) below meth c H locs 0 0 (MQ below (q_X9_trials D cI h h_enough g_book g_now g_places g_power g_spite g_ways g_milky g_sights g_sight g_signs g_pad g_offAt g_offWho g_reason g_acts g_rows g_counts g_pours g_image g_isKept post A) (([.ref h, .int p1, .int p2, .int p3] : List Value).toArray) s 0 0 A) (F0 m 161 ls []) := by
        intro f_enough x4 x5 x6 H locs ls hw hP hD hS hl
        unfold w_X9_trials_B161 at hw
        refine lv_aload_n hx hb dX9_trials_161 rfl (lv_at hl 0 rfl) ?_
        refine va_get (D := D) (ci := 9) (v := .ref h_enough) (C := RX9) (T := TX9) (N := 21) hx hb hz hX_X9 hown hK.1 hP 0 rfl rfl 15 (by decide) (hz _ z3_171) (fun _ h9 => h9) rfl dX9_trials_162 ?_
        refine lv_iload hx hb dX9_trials_165 (lv_at hl 5 rfl) ?_
        refine lv_iload hx hb dX9_trials_167 (lv_at hl 6 rfl) ?_
        obtain ⟨hi169, hw⟩ := hw
        refine va_iast hx hb hK.1 hP hD hS 1 0 rfl rfl hi169 dX9_trials_169 (fun H locs hP hD hS => ?_)
        have hP : va_P D vwCl (cw_X9_trials cI h h_enough g_book g_now g_places g_power g_spite g_ways g_milky g_sights g_sight g_signs g_pad g_offAt g_offWho g_reason g_acts g_rows g_counts g_pours g_image g_isKept (upd f_enough x5.toNatClampNeg x6)) H := hP
        have hD : va_D A (cw_X9_trials cI h h_enough g_book g_now g_places g_power g_spite g_ways g_milky g_sights g_sight g_signs g_pad g_offAt g_offWho g_reason g_acts g_rows g_counts g_pours g_image g_isKept (upd f_enough x5.toNatClampNeg x6)) := hD
        refine lv_iinc (k := 5) (v := (x5 + 1)) (lv' := [(5, .int (x5 + 1)), (0, .ref h), (1, .int p1), (2, .int p2), (3, .int p3), (4, .int x4), (6, .int x6)]) hx hb dX9_trials_170 hl rfl rfl (by decide) rfl (fun ls hl => ?_)
        refine lv_goto (tgt := 39) hx hb dX9_trials_173 (by decide) ?_
        exact ih39 (upd f_enough x5.toNatClampNeg x6) x4 (x5 + 1) _ _ _ hw hP hD hS (lv_sub hl [1, 2, 3, 4, 5, 0] rfl)
      have L66 : ∀ (n66 : Nat) (f_enough : Nat → Int32) (x4 : Int32) (x5 : Int32) (x6 : Int32) (x7 : Int32) (H : Heap) (locs : List Loc) (ls : Array Slot) (hw : w_X9_trials_B66 post p1 p2 p3 (fun f_enough x4 x5 => w_X9_trials_B39 post p1 p2 p3 n39 f_enough x4 x5) n66 f_enough x4 x5 x6 x7) (hP : va_P D vwCl (cw_X9_trials cI h h_enough g_book g_now g_places g_power g_spite g_ways g_milky g_sights g_sight g_signs g_pad g_offAt g_offWho g_reason g_acts g_rows g_counts g_pours g_image g_isKept f_enough) H) (hD : va_D A (cw_X9_trials cI h h_enough g_book g_now g_places g_power g_spite g_ways g_milky g_sights g_sight g_signs g_pad g_offAt g_offWho g_reason g_acts g_rows g_counts g_pours g_image g_isKept f_enough)) (hS : va_S A s.heap H locs) (hl : lv_has ls 9 [(0, .ref h), (1, .int p1), (2, .int p2), (3, .int p3), (4, .int x4), (5, .int x5), (6, .int x6), (7, .int x7)]), W p l e (headSpec v_X9_trials ({ frames := 1, cells := 0, slots := 0, locals := 22 } : Room)).room s m (([.ref h, .int p1, .int p2, .int p3] : List Value).toArray) below meth c H locs 0 0 (MQ below (q_X9_trials D cI h h_enough g_book g_now g_places g_power g_spite g_ways g_milky g_sights g_sight g_signs g_pad g_offAt g_offWho g_reason g_acts g_rows g_counts g_pours g_image g_isKept post A) (([.ref h, .int p1, .int p2, .int p3] : List Value).toArray) s 0 0 A) (F0 m 66 ls []) := by
        intro n66
        induction n66 with
        | zero => intro f_enough x4 x5 x6 x7 H locs ls hw; exact False.elim hw
        | succ n66 ih66 =>
          have J153 : ∀ (f_enough : Nat → Int32) (x4 : Int32) (x5 : Int32) (x7 : Int32) (s0 : Int32) (H : Heap) (locs : List Loc) (ls : Array Slot) (hw : w_X9_trials_B153 post p1 p2 p3 (fun f_enough x4 x5 => w_X9_trials_B39 post p1 p2 p3 n39 f_enough x4 x5) (fun f_enough x4 x5 x6 x7 => w_X9_trials_B66 post p1 p2 p3 (fun f_enough x4 x5 => w_X9_trials_B39 post p1 p2 p3 n39 f_enough x4 x5) n66 f_enough x4 x5 x6 x7) f_enough x4 x5 x7 s0) (hP : va_P D vwCl (cw_X9_trials cI h h_enough g_book g_now g_places g_power g_spite g_ways g_milky g_sights g_sight g_signs g_pad g_offAt g_offWho g_reason g_acts g_rows g_counts g_pours g_image g_isKept f_enough) H) (hD : va_D A (cw_X9_trials cI h h_enough g_book g_now g_places g_power g_spite g_ways g_milky g_sights g_sight g_signs g_pad g_offAt g_offWho g_reason g_acts g_rows g_counts g_pours g_image g_isKept f_enough)) (hS : va_S A s.heap H locs) (hl : lv_has ls 9 [(0, .ref h), (1, .int p1), (2, .int p2), (3, .int p3), (4, .int x4), (5, .int x5), (7, .int x7)]), W p l e (headSpec v_X9_trials ({ frames := 1, cells := 0, slots := 0, locals := 22 } : Room)).room s m (([.ref h, .int p1, .int p2, .int p3] : List Value).toArray) below meth c H locs 0 0 (MQ below (q_X9_trials D cI h h_enough g_book g_now g_places g_power g_spite g_ways g_milky g_sights g_sight g_signs g_pad g_offAt g_offWho g_reason g_acts g_rows g_counts g_pours g_image g_isKept post A) (([.ref h, .int p1, .int p2, .int p3] : List Value).toArray) s 0 0 A) (F0 m 153 ls [.int s0]) := by
            intro f_enough x4 x5 x7 s0 H locs ls hw hP hD hS hl
            unfold w_X9_trials_B153 at hw
            refine lv_istore (lv' := [(6, .int s0), (0, .ref h), (1, .int p1), (2, .int p2), (3, .int p3), (4, .int x4), (5, .int x5), (7, .int x7)]) hx hb dX9_trials_153 hl (by decide) rfl (fun ls hl => ?_)
            refine lv_iinc (k := 7) (v := (x7 + 1)) (lv' := [(7, .int (x7 + 1)), (6, .int s0), (0, .ref h), (1, .int p1), (2, .int p2), (3, .int p3), (4, .int x4), (5, .int x5)]) hx hb dX9_trials_155 hl rfl rfl (by decide) rfl (fun ls hl => ?_)
            refine lv_goto (tgt := 66) hx hb dX9_trials_158 (by decide) ?_
            exact ih66 f_enough x4 x5 s0 (x7 + 1) _ _ _ hw hP hD hS (lv_sub hl [2, 3, 4, 5, 6, 7, 1, 0] rfl)
          have J137 : ∀ (f_enough : Nat → Int32) (x5 : Int32) (x6 : Int32) (x7 : Int32) (x8 : Int32) (s0 : Int32) (H : Heap) (locs : List Loc) (ls : Array Slot) (hw : w_X9_trials_B137 post p1 p2 p3 (fun f_enough x4 x5 => w_X9_trials_B39 post p1 p2 p3 n39 f_enough x4 x5) (fun f_enough x4 x5 x6 x7 => w_X9_trials_B66 post p1 p2 p3 (fun f_enough x4 x5 => w_X9_trials_B39 post p1 p2 p3 n39 f_enough x4 x5) n66 f_enough x4 x5 x6 x7) f_enough x5 x6 x7 x8 s0) (hP : va_P D vwCl (cw_X9_trials cI h h_enough g_book g_now g_places g_power g_spite g_ways g_milky g_sights g_sight g_signs g_pad g_offAt g_offWho g_reason g_acts g_rows g_counts g_pours g_image g_isKept f_enough) H) (hD : va_D A (cw_X9_trials cI h h_enough g_book g_now g_places g_power g_spite g_ways g_milky g_sights g_sight g_signs g_pad g_offAt g_offWho g_reason g_acts g_rows g_counts g_pours g_image g_isKept f_enough)) (hS : va_S A s.heap H locs) (hl : lv_has ls 9 [(0, .ref h), (1, .int p1), (2, .int p2), (3, .int p3), (5, .int x5), (6, .int x6), (7, .int x7), (8, .int x8)]), W p l e (headSpec v_X9_trials ({ frames := 1, cells := 0, slots := 0, locals := 22 } : Room)).room s m (([.ref h, .int p1, .int p2, .int p3] : List Value).toArray) below meth c H locs 0 0 (MQ below (q_X9_trials D cI h h_enough g_book g_now g_places g_power g_spite g_ways g_milky g_sights g_sight g_signs g_pad g_offAt g_offWho g_reason g_acts g_rows g_counts g_pours g_image g_isKept post A) (([.ref h, .int p1, .int p2, .int p3] : List Value).toArray) s 0 0 A) (F0 m 137 ls [.int s0]) := by
            intro f_enough x5 x6 x7 x8 s0 H locs ls hw hP hD hS hl
            unfold w_X9_trials_B137 at hw
            refine lv_istore (lv' := [(4, .int s0), (0, .ref h), (1, .int p1), (2, .int p2), (3, .int p3), (5, .int x5), (6, .int x6), (7, .int x7), (8, .int x8)]) hx hb dX9_trials_137 hl (by decide) rfl (fun ls hl => ?_)
            refine lv_iload hx hb dX9_trials_139 (lv_at hl 8 rfl) ?_
            refine lv_iload hx hb dX9_trials_141 (lv_at hl 6 rfl) ?_
            refine lv_icmp_ge (tgt := 151) hx hb dX9_trials_143 (by decide) (fun c143 => ?_) (fun c143 => ?_)
            · have hw := hw.1 c143
              refine lv_iload hx hb dX9_trials_151 (lv_at hl 6 rfl) ?_
              exact J153 f_enough s0 x5 x7 x6 _ _ _ hw hP hD hS (lv_sub hl [1, 2, 3, 4, 0, 5, 7] rfl)
            have hw := hw.2 c143
            refine lv_iload hx hb dX9_trials_146 (lv_at hl 8 rfl) ?_
            refine lv_goto (tgt := 153) hx hb dX9_trials_148 (by decide) ?_
            exact J153 f_enough s0 x5 x7 x8 _ _ _ hw hP hD hS (lv_sub hl [1, 2, 3, 4, 0, 5, 7] rfl)
          have J120 : ∀ (f_enough : Nat → Int32) (x4 : Int32) (x5 : Int32) (x6 : Int32) (x7 : Int32) (s0 : Int32) (s1 : Int32) (H : Heap) (locs : List Loc) (ls : Array Slot) (hw : w_X9_trials_B120 post p1 p2 p3 (fun f_enough x4 x5 => w_X9_trials_B39 post p1 p2 p3 n39 f_enough x4 x5) (fun f_enough x4 x5 x6 x7 => w_X9_trials_B66 post p1 p2 p3 (fun f_enough x4 x5 => w_X9_trials_B39 post p1 p2 p3 n39 f_enough x4 x5) n66 f_enough x4 x5 x6 x7) f_enough x4 x5 x6 x7 s0 s1) (hP : va_P D vwCl (cw_X9_trials cI h h_enough g_book g_now g_places g_power g_spite g_ways g_milky g_sights g_sight g_signs g_pad g_offAt g_offWho g_reason g_acts g_rows g_counts g_pours g_image g_isKept f_enough) H) (hD : va_D A (cw_X9_trials cI h h_enough g_book g_now g_places g_power g_spite g_ways g_milky g_sights g_sight g_signs g_pad g_offAt g_offWho g_reason g_acts g_rows g_counts g_pours g_image g_isKept f_enough)) (hS : va_S A s.heap H locs) (hl : lv_has ls 9 [(0, .ref h), (1, .int p1), (2, .int p2), (3, .int p3), (4, .int x4), (5, .int x5), (6, .int x6), (7, .int x7)]), W p l e (headSpec v_X9_trials ({ frames := 1, cells := 0, slots := 0, locals := 22 } : Room)).room s m (([.ref h, .int p1, .int p2, .int p3] : List Value).toArray) below meth c H locs 0 0 (MQ below (q_X9_trials D cI h h_enough g_book g_now g_places g_power g_spite g_ways g_milky g_sights g_sight g_signs g_pad g_offAt g_offWho g_reason g_acts g_rows g_counts g_pours g_image g_isKept post A) (([.ref h, .int p1, .int p2, .int p3] : List Value).toArray) s 0 0 A) (F0 m 120 ls [.int s1, .int s0]) := by
            intro f_enough x4 x5 x6 x7 s0 s1 H locs ls hw hP hD hS hl
            unfold w_X9_trials_B120 at hw
            refine lv_iadd hx hb dX9_trials_120 ?_
            refine lv_istore (lv' := [(8, .int (s0 + s1)), (0, .ref h), (1, .int p1), (2, .int p2), (3, .int p3), (4, .int x4), (5, .int x5), (6, .int x6), (7, .int x7)]) hx hb dX9_trials_121 hl (by decide) rfl (fun ls hl => ?_)
            refine lv_iload hx hb dX9_trials_123 (lv_at hl 0 rfl) ?_
            refine lv_iload hx hb dX9_trials_125 (lv_at hl 7 rfl) ?_
            refine lv_icmp_ge (tgt := 135) hx hb dX9_trials_127 (by decide) (fun c127 => ?_) (fun c127 => ?_)
            · have hw := hw.1 c127
              refine lv_iload hx hb dX9_trials_135 (lv_at hl 5 rfl) ?_
              exact J137 f_enough x5 x6 x7 (s0 + s1) x4 _ _ _ hw hP hD hS (lv_sub hl [1, 2, 3, 4, 6, 7, 8, 0] rfl)
            have hw := hw.2 c127
            refine lv_iload hx hb dX9_trials_130 (lv_at hl 8 rfl) ?_
            refine lv_goto (tgt := 137) hx hb dX9_trials_132 (by decide) ?_
            exact J137 f_enough x5 x6 x7 (s0 + s1) x7 _ _ _ hw hP hD hS (lv_sub hl [1, 2, 3, 4, 6, 7, 8, 0] rfl)
          intro f_enough x4 x5 x6 x7 H locs ls hw hP hD hS hl
          unfold w_X9_trials_B66 at hw
          refine lv_iload hx hb dX9_trials_66 (lv_at hl 7 rfl) ?_
          refine lv_iload_n hx hb dX9_trials_68 rfl (lv_at hl 2 rfl) ?_
          refine lv_icmp_gt (tgt := 161) hx hb dX9_trials_69 (by decide) (fun c69 => ?_) (fun c69 => ?_)
          · have hw := hw.1 c69
            exact J161 f_enough x4 x5 x6 _ _ _ hw hP hD hS (lv_sub hl [0, 1, 2, 3, 4, 5, 6] rfl)
          have hw := hw.2 c69
          refine lv_iload hx hb dX9_trials_72 (lv_at hl 7 rfl) ?_
          refine lv_iload hx hb dX9_trials_74 (lv_at hl 5 rfl) ?_
          refine lv_icmp_ge (tgt := 161) hx hb dX9_trials_76 (by decide) (fun c76 => ?_) (fun c76 => ?_)
          · have hw := hw.1 c76
            exact J161 f_enough x4 x5 x6 _ _ _ hw hP hD hS (lv_sub hl [0, 1, 2, 3, 4, 5, 6] rfl)
          have hw := hw.2 c76
          refine lv_iconst (v := (1 : Int32)) hx hb dX9_trials_79 (by decide) ?_
          refine lv_aload_n hx hb dX9_trials_80 rfl (lv_at hl 0 rfl) ?_
          refine va_get (D := D) (ci := 9) (v := .ref h_enough) (C := RX9) (T := TX9) (N := 21) hx hb hz hX_X9 hown hK.1 hP 0 rfl rfl 15 (by decide) (hz _ z3_171) (fun _ h9 => h9) rfl dX9_trials_81 ?_
          refine lv_iload hx hb dX9_trials_84 (lv_at hl 7 rfl) ?_
          obtain ⟨hi86, hw⟩ := hw
          refine va_iald hx hb hK.1 hP 1 0 rfl rfl hi86 dX9_trials_86 ?_
          refine lv_aload_n hx hb dX9_trials_87 rfl (lv_at hl 0 rfl) ?_
          refine va_get (D := D) (ci := 9) (v := .ref h_enough) (C := RX9) (T := TX9) (N := 21) hx hb hz hX_X9 hown hK.1 hP 0 rfl rfl 15 (by decide) (hz _ z3_171) (fun _ h9 => h9) rfl dX9_trials_88 ?_
          refine lv_iload hx hb dX9_trials_91 (lv_at hl 5 rfl) ?_
          refine lv_iload hx hb dX9_trials_93 (lv_at hl 7 rfl) ?_
          refine lv_isub hx hb dX9_trials_95 ?_
          obtain ⟨hi96, hw⟩ := hw
          refine va_iald hx hb hK.1 hP 1 0 rfl rfl hi96 dX9_trials_96 ?_
          refine lv_icmp_le (tgt := 110) hx hb dX9_trials_97 (by decide) (fun c97 => ?_) (fun c97 => ?_)
          · have hw := hw.1 c97
            refine lv_aload_n hx hb dX9_trials_110 rfl (lv_at hl 0 rfl) ?_
            refine va_get (D := D) (ci := 9) (v := .ref h_enough) (C := RX9) (T := TX9) (N := 21) hx hb hz hX_X9 hown hK.1 hP 0 rfl rfl 15 (by decide) (hz _ z3_171) (fun _ h9 => h9) rfl dX9_trials_111 ?_
            refine lv_iload hx hb dX9_trials_114 (lv_at hl 5 rfl) ?_
            refine lv_iload hx hb dX9_trials_116 (lv_at hl 7 rfl) ?_
            refine lv_isub hx hb dX9_trials_118 ?_
            obtain ⟨hi119, hw⟩ := hw
            refine va_iald hx hb hK.1 hP 1 0 rfl rfl hi119 dX9_trials_119 ?_
            exact J120 f_enough x4 x5 x6 x7 (1 : Int32) (f_enough (x5 - x7).toNatClampNeg) _ _ _ hw hP hD hS (lv_sub hl [0, 1, 2, 3, 4, 5, 6, 7] rfl)
          have hw := hw.2 c97
          refine lv_aload_n hx hb dX9_trials_100 rfl (lv_at hl 0 rfl) ?_
          refine va_get (D := D) (ci := 9) (v := .ref h_enough) (C := RX9) (T := TX9) (N := 21) hx hb hz hX_X9 hown hK.1 hP 0 rfl rfl 15 (by decide) (hz _ z3_171) (fun _ h9 => h9) rfl dX9_trials_101 ?_
          refine lv_iload hx hb dX9_trials_104 (lv_at hl 7 rfl) ?_
          obtain ⟨hi106, hw⟩ := hw
          refine va_iald hx hb hK.1 hP 1 0 rfl rfl hi106 dX9_trials_106 ?_
          refine lv_goto (tgt := 120) hx hb dX9_trials_107 (by decide) ?_
          exact J120 f_enough x4 x5 x6 x7 (1 : Int32) (f_enough x7.toNatClampNeg) _ _ _ hw hP hD hS (lv_sub hl [0, 1, 2, 3, 4, 5, 6, 7] rfl)
      have J57 : ∀ (f_enough : Nat → Int32) (x5 : Int32) (s0 : Int32) (H : Heap) (locs : List Loc) (ls : Array Slot) (hw : w_X9_trials_B57 post p1 p2 p3 (fun f_enough x4 x5 => w_X9_trials_B39 post p1 p2 p3 n39 f_enough x4 x5) f_enough x5 s0) (hP : va_P D vwCl (cw_X9_trials cI h h_enough g_book g_now g_places g_power g_spite g_ways g_milky g_sights g_sight g_signs g_pad g_offAt g_offWho g_reason g_acts g_rows g_counts g_pours g_image g_isKept f_enough) H) (hD : va_D A (cw_X9_trials cI h h_enough g_book g_now g_places g_power g_spite g_ways g_milky g_sights g_sight g_signs g_pad g_offAt g_offWho g_reason g_acts g_rows g_counts g_pours g_image g_isKept f_enough)) (hS : va_S A s.heap H locs) (hl : lv_has ls 9 [(0, .ref h), (1, .int p1), (2, .int p2), (3, .int p3), (5, .int x5)]), W p l e (headSpec v_X9_trials ({ frames := 1, cells := 0, slots := 0, locals := 22 } : Room)).room s m (([.ref h, .int p1, .int p2, .int p3] : List Value).toArray) below meth c H locs 0 0 (MQ below (q_X9_trials D cI h h_enough g_book g_now g_places g_power g_spite g_ways g_milky g_sights g_sight g_signs g_pad g_offAt g_offWho g_reason g_acts g_rows g_counts g_pours g_image g_isKept post A) (([.ref h, .int p1, .int p2, .int p3] : List Value).toArray) s 0 0 A) (F0 m 57 ls [.int s0]) := by
        intro f_enough x5 s0 H locs ls hw hP hD hS hl
        unfold w_X9_trials_B57 at hw
        refine lv_istore (lv' := [(6, .int s0), (0, .ref h), (1, .int p1), (2, .int p2), (3, .int p3), (5, .int x5)]) hx hb dX9_trials_57 hl (by decide) rfl (fun ls hl => ?_)
        refine lv_bipush (v := (-6 : Int32)) hx hb dX9_trials_59 (by decide) ?_
        refine lv_istore (lv' := [(4, .int (-6 : Int32)), (6, .int s0), (0, .ref h), (1, .int p1), (2, .int p2), (3, .int p3), (5, .int x5)]) hx hb dX9_trials_61 hl (by decide) rfl (fun ls hl => ?_)
        refine lv_iconst (v := (1 : Int32)) hx hb dX9_trials_63 (by decide) ?_
        refine lv_istore (lv' := [(7, .int (1 : Int32)), (4, .int (-6 : Int32)), (6, .int s0), (0, .ref h), (1, .int p1), (2, .int p2), (3, .int p3), (5, .int x5)]) hx hb dX9_trials_64 hl (by decide) rfl (fun ls hl => ?_)
        obtain ⟨n66, hw⟩ := hw
        exact L66 n66 f_enough (-6 : Int32) x5 s0 (1 : Int32) _ _ _ hw hP hD hS (lv_sub hl [3, 4, 5, 6, 1, 7, 2, 0] rfl)
      intro f_enough x4 x5 H locs ls hw hP hD hS hl
      unfold w_X9_trials_B39 at hw
      refine lv_iload hx hb dX9_trials_39 (lv_at hl 5 rfl) ?_
      refine lv_iload_n hx hb dX9_trials_41 rfl (lv_at hl 1 rfl) ?_
      refine lv_icmp_gt (tgt := 176) hx hb dX9_trials_42 (by decide) (fun c42 => ?_) (fun c42 => ?_)
      · have hw := hw.1 c42
        refine lv_iload_n hx hb dX9_trials_176 rfl (lv_at hl 3 rfl) ?_
        refine lv_if_ne (tgt := 189) hx hb dX9_trials_177 (by decide) (fun c177 => ?_) (fun c177 => ?_)
        · have hw := hw.2 c177
          refine lv_iload hx hb dX9_trials_189 (lv_at hl 4 rfl) ?_
          exact z_iret hx hb hr hlocks f_enough hw hP hS dX9_trials_191
        have hw := hw.1 c177
        refine lv_aload_n hx hb dX9_trials_180 rfl (lv_at hl 0 rfl) ?_
        refine va_get (D := D) (ci := 9) (v := .ref h_enough) (C := RX9) (T := TX9) (N := 21) hx hb hz hX_X9 hown hK.1 hP 0 rfl rfl 15 (by decide) (hz _ z3_171) (fun _ h9 => h9) rfl dX9_trials_181 ?_
        refine lv_iload_n hx hb dX9_trials_184 rfl (lv_at hl 1 rfl) ?_
        obtain ⟨hi185, hw⟩ := hw
        refine va_iald hx hb hK.1 hP 1 0 rfl rfl hi185 dX9_trials_185 ?_
        refine lv_goto (tgt := 191) hx hb dX9_trials_186 (by decide) ?_
        exact z_iret hx hb hr hlocks f_enough hw hP hS dX9_trials_191
      have hw := hw.2 c42
      refine lv_iload hx hb dX9_trials_45 (lv_at hl 5 rfl) ?_
      refine lv_iconst (v := (1 : Int32)) hx hb dX9_trials_47 (by decide) ?_
      refine lv_icmp_ne (tgt := 55) hx hb dX9_trials_48 (by decide) (fun c48 => ?_) (fun c48 => ?_)
      · have hw := hw.2 c48
        refine lv_ldc (v := (1000000 : Int32)) hx hb hown (hz _ z4_113) dX9_trials_55 ?_
        exact J57 f_enough x5 (1000000 : Int32) _ _ _ hw hP hD hS (lv_sub hl [0, 1, 2, 3, 5] rfl)
      have hw := hw.1 c48
      refine lv_iconst (v := (0 : Int32)) hx hb dX9_trials_51 (by decide) ?_
      refine lv_goto (tgt := 57) hx hb dX9_trials_52 (by decide) ?_
      exact J57 f_enough x5 (0 : Int32) _ _ _ hw hP hD hS (lv_sub hl [0, 1, 2, 3, 5] rfl)
  unfold w_X9_trials at hw
  refine lv_iload_n hx hb dX9_trials_0 rfl (lv_at hl 1 rfl) ?_
  refine lv_iconst (v := (1 : Int32)) hx hb dX9_trials_1 (by decide) ?_
  refine lv_bipush (v := (99 : Int32)) hx hb dX9_trials_2 (by decide) ?_
  refine z_ri (z_runS (As := [.int p1, .int (1 : Int32), .int (99 : Int32)]) (rest := []) hF (c_X9_in l D cI cC cZ p1 (1 : Int32) (99 : Int32) _ _ hw) (va_cwS 3 hz (z_gS z3_225 z3_226 z1_10 z3_227) rfl rfl rfl hd_X9_in ⟨Nat.le_of_ble_eq_true rfl, Nat.le_of_ble_eq_true rfl⟩) hK hP hD [] rfl rfl rfl hl.1 rfl (Nat.le_of_ble_eq_true rfl) dX9_trials_4 ⟨Nat.zero_le _, Nat.zero_le _⟩) hP hD hS hA [] rfl (fun _ => rfl) (fun _ => cw_X9_trials cI h h_enough g_book g_now g_places g_power g_spite g_ways g_milky g_sights g_sight g_signs g_pad g_offAt g_offWho g_reason g_acts g_rows g_counts g_pours g_image g_isKept f_enough) (fun _ => rfl) (fun r4 u4 H locs hw hP hD hS => ?_)
  obtain ⟨hn4, hw⟩ := hw
  try dsimp only at hw
  refine lv_if_eq (tgt := 29) hx hb dX9_trials_7 (by decide) (fun c7 => ?_) (fun c7 => ?_)
  · have hw := hw.1 c7
    refine lv_bipush (v := (-2 : Int32)) hx hb dX9_trials_29 (by decide) ?_
    exact z_iret hx hb hr hlocks f_enough hw hP hS dX9_trials_31
  have hw := hw.2 c7
  refine lv_iload_n hx hb dX9_trials_10 rfl (lv_at hl 2 rfl) ?_
  refine lv_iconst (v := (1 : Int32)) hx hb dX9_trials_11 (by decide) ?_
  refine lv_bipush (v := (20 : Int32)) hx hb dX9_trials_12 (by decide) ?_
  refine z_ri (z_runS (As := [.int p2, .int (1 : Int32), .int (20 : Int32)]) (rest := []) hF (c_X9_in l D cI cC cZ p2 (1 : Int32) (20 : Int32) _ _ hw) (va_cwS 3 hz (z_gS z3_225 z3_226 z1_10 z3_227) rfl rfl rfl hd_X9_in ⟨Nat.le_of_ble_eq_true rfl, Nat.le_of_ble_eq_true rfl⟩) hK hP hD [] rfl rfl rfl hl.1 rfl (Nat.le_of_ble_eq_true rfl) dX9_trials_14 ⟨Nat.zero_le _, Nat.zero_le _⟩) hP hD hS hA [] rfl (fun _ => rfl) (fun _ => cw_X9_trials cI h h_enough g_book g_now g_places g_power g_spite g_ways g_milky g_sights g_sight g_signs g_pad g_offAt g_offWho g_reason g_acts g_rows g_counts g_pours g_image g_isKept f_enough) (fun _ => rfl) (fun r14 u14 H locs hw hP hD hS => ?_)
  obtain ⟨hn14, hw⟩ := hw
  try dsimp only at hw
  refine lv_if_eq (tgt := 29) hx hb dX9_trials_17 (by decide) (fun c17 => ?_) (fun c17 => ?_)
  · have hw := hw.1 c17
    refine lv_bipush (v := (-2 : Int32)) hx hb dX9_trials_29 (by decide) ?_
    exact z_iret hx hb hr hlocks f_enough hw hP hS dX9_trials_31
  have hw := hw.2 c17
  refine lv_iload_n hx hb dX9_trials_20 rfl (lv_at hl 3 rfl) ?_
  refine lv_iconst (v := (0 : Int32)) hx hb dX9_trials_21 (by decide) ?_
  refine lv_iconst (v := (1 : Int32)) hx hb dX9_trials_22 (by decide) ?_
  refine z_ri (z_runS (As := [.int p3, .int (0 : Int32), .int (1 : Int32)]) (rest := []) hF (c_X9_in l D cI cC cZ p3 (0 : Int32) (1 : Int32) _ _ hw) (va_cwS 3 hz (z_gS z3_225 z3_226 z1_10 z3_227) rfl rfl rfl hd_X9_in ⟨Nat.le_of_ble_eq_true rfl, Nat.le_of_ble_eq_true rfl⟩) hK hP hD [] rfl rfl rfl hl.1 rfl (Nat.le_of_ble_eq_true rfl) dX9_trials_23 ⟨Nat.zero_le _, Nat.zero_le _⟩) hP hD hS hA [] rfl (fun _ => rfl) (fun _ => cw_X9_trials cI h h_enough g_book g_now g_places g_power g_spite g_ways g_milky g_sights g_sight g_signs g_pad g_offAt g_offWho g_reason g_acts g_rows g_counts g_pours g_image g_isKept f_enough) (fun _ => rfl) (fun r23 u23 H locs hw hP hD hS => ?_)
  obtain ⟨hn23, hw⟩ := hw
  try dsimp only at hw
  refine lv_if_ne (tgt := 32) hx hb dX9_trials_26 (by decide) (fun c26 => ?_) (fun c26 => ?_)
  · have hw := hw.2 c26
    refine lv_bipush (v := (-6 : Int32)) hx hb dX9_trials_32 (by decide) ?_
    refine lv_istore (lv' := [(4, .int (-6 : Int32)), (0, .ref h), (1, .int p1), (2, .int p2), (3, .int p3)]) hx hb dX9_trials_34 hl (by decide) rfl (fun ls hl => ?_)
    refine lv_iconst (v := (1 : Int32)) hx hb dX9_trials_36 (by decide) ?_
    refine lv_istore (lv' := [(5, .int (1 : Int32)), (4, .int (-6 : Int32)), (0, .ref h), (1, .int p1), (2, .int p2), (3, .int p3)]) hx hb dX9_trials_37 hl (by decide) rfl (fun ls hl => ?_)
    obtain ⟨n39, hw⟩ := hw
    exact L39 n39 f_enough (-6 : Int32) (1 : Int32) _ _ _ hw hP hD hS (lv_sub hl [2, 3, 4, 5, 1, 0] rfl)
  have hw := hw.1 c26
  refine lv_bipush (v := (-2 : Int32)) hx hb dX9_trials_29 (by decide) ?_
  exact z_iret hx hb hr hlocks f_enough hw hP hS dX9_trials_31
abbrev cw_X9_freeCells (cI : ClassId) (h h_ways : Nat) (g_book g_now g_places g_power g_spite g_milky g_sights g_sight g_signs g_pad g_offAt g_offWho g_reason g_acts g_enough g_rows g_counts g_pours g_image g_isKept : Value) (f_ways : Nat → Int32) : va_W := [(h, .inr (9, [g_book, g_now, g_places, g_power, g_spite, .ref h_ways, g_milky, g_sights, g_sight, g_signs, g_pad, g_offAt, g_offWho, g_reason, g_acts, g_enough, g_rows, g_counts, g_pours, g_image, g_isKept])), (h_ways, .inl (cI, 12, .inl f_ways))]
abbrev q_X9_freeCells (D : va_G) (cI : ClassId) (h h_ways : Nat) (g_book g_now g_places g_power g_spite g_milky g_sights g_sight g_signs g_pad g_offAt g_offWho g_reason g_acts g_enough g_rows g_counts g_pours g_image g_isKept : Value) (post : Int32 → Prop) (f_ways : Nat → Int32) (A : Nat → Prop) : Array Value → State → Outcome → State → Prop := va_Qi (S := Unit) (fun r _ => post r ) (fun _ t => va_P D vwCl (cw_X9_freeCells cI h h_ways g_book g_now g_places g_power g_spite g_milky g_sights g_sight g_signs g_pad g_offAt g_offWho g_reason g_acts g_enough g_rows g_counts g_pours g_image g_isKept f_ways) t.heap) A
abbrev v_X9_freeCells : List Cond := .code yX9_freeCells cX9_freeCells 4 (some .int) :: zB
theorem hd_X9_freeCells : yX9_freeCells.cls = RX9 ∧ yX9_freeCells.cls ≠ "java/lang/invoke/MethodHandle" ∧ yX9_freeCells.cls ≠ "java/lang/invoke/VarHandle" ∧ (parseMethodDescriptor yX9_freeCells.desc).map (fun d => d.parameters.length) = some 1 := by decide +kernel
set_option maxHeartbeats 4000000 in
set_option maxRecDepth 100000 in
theorem c_X9_freeCells (l : Launch) (D : va_G) (cI cC cZ : ClassId) (h h_ways : Nat) (g_book g_now g_places g_power g_spite g_milky g_sights g_sight g_signs g_pad g_offAt g_offWho g_reason g_acts g_enough g_rows g_counts g_pours g_image g_isKept : Value) (f_ways : Nat → Int32) (p1 : Int32) (sz : Nat) (post : Int32 → Prop) (hw : w_X9_freeCells post f_ways p1) : Met l yX9_freeCells v_X9_freeCells ({ frames := 1, cells := 0, slots := 0, locals := 21 } : Room) (va_Pc [.ref h, .int p1] (zPre D (zT cI cC cZ) sz (cw_X9_freeCells cI h h_ways g_book g_now g_places g_power g_spite g_milky g_sights g_sight g_signs g_pad g_offAt g_offWho g_reason g_acts g_enough g_rows g_counts g_pours g_image g_isKept f_ways))) (q_X9_freeCells D cI h h_ways g_book g_now g_places g_power g_spite g_milky g_sights g_sight g_signs g_pad g_offAt g_offWho g_reason g_acts g_enough g_rows g_counts g_pours g_image g_isKept post f_ways (va_A (cw_X9_freeCells cI h h_ways g_book g_now g_places g_power g_spite g_milky g_sights g_sight g_signs g_pad g_offAt g_offWho g_reason g_acts g_enough g_rows g_counts g_pours g_image g_isKept f_ways) sz)) 0 0 (va_A (cw_X9_freeCells cI h h_ways g_book g_now g_places g_power g_spite g_milky g_sights g_sight g_signs g_pad g_offAt g_offWho g_reason g_acts g_enough g_rows g_counts g_pours g_image g_isKept f_ways) sz) := by
  refine Met.ofW (cc := cX9_freeCells) (maxL := 4) (ret := (some .int)) (by decide) rfl ?_
  intro p e s m args below meth c s₁ B hml hv
  obtain ⟨rfl, hsz, hP, hK, hD0⟩ := hv
  subst hsz
  have hx := B.exec
  have hb := B.bytes
  have hr := B.returns
  have hz : ∀ w ∈ zB, w.before _ s = true := fun w h => atoms_spec (ws := v_X9_freeCells) B.pre w (List.mem_cons_of_mem _ h)
  have hown : s.vm.findClass RX9 = some m.cls := findClass_of_methodNamed B.named
  have hlocks := B.notSynchronized
  have hF : CallFix p m c cX9_freeCells 4 s (([.ref h, .int p1] : List Value).toArray) zB RX9 := ⟨hx, hb, hml, hown, hz⟩
  have hD := hD0.self (sz := s.heap.size)
  generalize hAe : va_A (cw_X9_freeCells cI h h_ways g_book g_now g_places g_power g_spite g_milky g_sights g_sight g_signs g_pad g_offAt g_offWho g_reason g_acts g_enough g_rows g_counts g_pours g_image g_isKept f_ways) s.heap.size = A at hD ⊢
  have hA : ∀ q : Nat, s.heap.size ≤ q → A q := fun q h => by rw [← hAe]; exact Or.inr h
  have hS : va_S A s.heap s.heap [] := va_S.rf
  have hP : va_P D vwCl (cw_X9_freeCells cI h h_ways g_book g_now g_places g_power g_spite g_milky g_sights g_sight g_signs g_pad g_offAt g_offWho g_reason g_acts g_enough g_rows g_counts g_pours g_image g_isKept f_ways) s.heap := hP
  have hl := lv_entry ([.ref h, .int p1]) (n := 4) (Nat.le_of_ble_eq_true rfl)
  rw [lg_entry_eq]
  generalize (lg_sl ([.ref h, .int p1]) ++ List.replicate (4 - (lg_sl ([.ref h, .int p1])).length) Slot.unset).toArray = ls at hl ⊢
  have hl : lv_has ls 4 [(0, .ref h), (1, .int p1)] := hl
  have L4 : ∀ (n4 : Nat) (x2 : Int32) (x3 : Int32) (H : Heap) (locs : List Loc) (ls : Array Slot) (hw : w_X9_freeCells_B4 post f_ways p1 n4 x2 x3) (hP : va_P D vwCl (cw_X9_freeCells cI h h_ways g_book g_now g_places g_power g_spite g_milky g_sights g_sight g_signs g_pad g_offAt g_offWho g_reason g_acts g_enough g_rows g_counts g_pours g_image g_isKept f_ways) H) (hD : va_D A (cw_X9_freeCells cI h h_ways g_book g_now g_places g_power g_spite g_milky g_sights g_sight g_signs g_pad g_offAt g_offWho g_reason g_acts g_enough g_rows g_counts g_pours g_image g_isKept f_ways)) (hS : va_S A s.heap H locs) (hl : lv_has ls 4 [(0, .ref h), (1, .int p1), (2, .int x2), (3, .int x3)]), W p l e (headSpec v_X9_freeCells ({ frames := 1, cells := 0, slots := 0, locals := 21 } : Room)).room s m (([.ref h, .int p1] : List Value).toArray) below meth c H locs 0 0 (MQ below (q_X9_freeCells D cI h h_ways g_book g_now g_places g_power g_spite g_milky g_sights g_sight g_signs g_pad g_offAt g_offWho g_reason g_acts g_enough g_rows g_counts g_pours g_image g_isKept post f_ways A) (([.ref h, .int p1] : List Value).toArray) s 0 0 A) (F0 m 4 ls []) := by
    intro n4
    induction n4 with
    | zero => intro x2 x3 H locs ls hw; exact False.elim hw
    | succ n4 ih4 =>
      have J37 : ∀ (x3 : Int32) (s0 : Int32) (s1 : Int32) (H : Heap) (locs : List Loc) (ls : Array Slot) (hw : w_X9_freeCells_B37 post f_ways p1 (fun x2 x3 => w_X9_freeCells_B4 post f_ways p1 n4 x2 x3) x3 s0 s1) (hP : va_P D vwCl (cw_X9_freeCells cI h h_ways g_book g_now g_places g_power g_spite g_milky g_sights g_sight g_signs g_pad g_offAt g_offWho g_reason g_acts g_enough g_rows g_counts g_pours g_image g_isKept f_ways) H) (hD : va_D A (cw_X9_freeCells cI h h_ways g_book g_now g_places g_power g_spite g_milky g_sights g_sight g_signs g_pad g_offAt g_offWho g_reason g_acts g_enough g_rows g_counts g_pours g_image g_isKept f_ways)) (hS : va_S A s.heap H locs) (hl : lv_has ls 4 [(0, .ref h), (1, .int p1), (3, .int x3)]), W p l e (headSpec v_X9_freeCells ({ frames := 1, cells := 0, slots := 0, locals := 21 } : Room)).room s m (([.ref h, .int p1] : List Value).toArray) below meth c H locs 0 0 (MQ below (q_X9_freeCells D cI h h_ways g_book g_now g_places g_power g_spite g_milky g_sights g_sight g_signs g_pad g_offAt g_offWho g_reason g_acts g_enough g_rows g_counts g_pours g_image g_isKept post f_ways A) (([.ref h, .int p1] : List Value).toArray) s 0 0 A) (F0 m 37 ls [.int s1, .int s0]) := by
        intro x3 s0 s1 H locs ls hw hP hD hS hl
        unfold w_X9_freeCells_B37 at hw
        refine lv_ior hx hb dX9_freeCells_37 ?_
        refine lv_istore_n (lv' := [(2, .int (s0 ||| s1)), (0, .ref h), (1, .int p1), (3, .int x3)]) hx hb dX9_freeCells_38 rfl hl (by decide) rfl (fun ls hl => ?_)
        refine lv_iinc (k := 3) (v := (x3 + 1)) (lv' := [(3, .int (x3 + 1)), (2, .int (s0 ||| s1)), (0, .ref h), (1, .int p1)]) hx hb dX9_freeCells_39 hl rfl rfl (by decide) rfl (fun ls hl => ?_)
        refine lv_goto (tgt := 4) hx hb dX9_freeCells_42 (by decide) ?_
        exact ih4 (s0 ||| s1) (x3 + 1) _ _ _ hw hP hD hS (lv_sub hl [2, 3, 1, 0] rfl)
      have J30 : ∀ (x3 : Int32) (s0 : Int32) (H : Heap) (locs : List Loc) (ls : Array Slot) (hw : w_X9_freeCells_B30 post f_ways p1 (fun x2 x3 => w_X9_freeCells_B4 post f_ways p1 n4 x2 x3) x3 s0) (hP : va_P D vwCl (cw_X9_freeCells cI h h_ways g_book g_now g_places g_power g_spite g_milky g_sights g_sight g_signs g_pad g_offAt g_offWho g_reason g_acts g_enough g_rows g_counts g_pours g_image g_isKept f_ways) H) (hD : va_D A (cw_X9_freeCells cI h h_ways g_book g_now g_places g_power g_spite g_milky g_sights g_sight g_signs g_pad g_offAt g_offWho g_reason g_acts g_enough g_rows g_counts g_pours g_image g_isKept f_ways)) (hS : va_S A s.heap H locs) (hl : lv_has ls 4 [(0, .ref h), (1, .int p1), (3, .int x3)]), W p l e (headSpec v_X9_freeCells ({ frames := 1, cells := 0, slots := 0, locals := 21 } : Room)).room s m (([.ref h, .int p1] : List Value).toArray) below meth c H locs 0 0 (MQ below (q_X9_freeCells D cI h h_ways g_book g_now g_places g_power g_spite g_milky g_sights g_sight g_signs g_pad g_offAt g_offWho g_reason g_acts g_enough g_rows g_counts g_pours g_image g_isKept post f_ways A) (([.ref h, .int p1] : List Value).toArray) s 0 0 A) (F0 m 30 ls [.int s0]) := by
        intro x3 s0 H locs ls hw hP hD hS hl
        unfold w_X9_freeCells_B30 at hw
        refine lv_iconst (v := (0 : Int32)) hx hb dX9_freeCells_30 (by decide) ?_
        refine lv_goto (tgt := 37) hx hb dX9_freeCells_31 (by decide) ?_
        exact J37 x3 s0 (0 : Int32) _ _ _ hw hP hD hS (lv_sub hl [0, 1, 2] rfl)
      intro x2 x3 H locs ls hw hP hD hS hl
      unfold w_X9_freeCells_B4 at hw
      refine lv_iload_n hx hb dX9_freeCells_4 rfl (lv_at hl 3 rfl) ?_
      refine lv_bipush (v := (12 : Int32)) hx hb dX9_freeCells_5 (by decide) ?_
      refine lv_icmp_ge (tgt := 45) hx hb dX9_freeCells_7 (by decide) (fun c7 => ?_) (fun c7 => ?_)
      · have hw := hw.1 c7
        refine lv_iload_n hx hb dX9_freeCells_45 rfl (lv_at hl 2 rfl) ?_
        exact z_iret hx hb hr hlocks () hw hP hS dX9_freeCells_46
      have hw := hw.2 c7
      refine lv_iload_n hx hb dX9_freeCells_10 rfl (lv_at hl 2 rfl) ?_
      refine lv_iload_n hx hb dX9_freeCells_11 rfl (lv_at hl 1 rfl) ?_
      refine lv_iload_n hx hb dX9_freeCells_12 rfl (lv_at hl 3 rfl) ?_
      refine z_ri (z_runS (As := [.int p1, .int x3]) (rest := [.int x2]) hF (c_X9_has l D cI cC cZ p1 x3 _ _ hw) (va_cwS 2 hz (z_gS z4_42 z4_43 z1_10 z4_44) rfl rfl rfl hd_X9_has ⟨Nat.le_of_ble_eq_true rfl, Nat.le_of_ble_eq_true rfl⟩) hK hP hD [] rfl rfl rfl hl.1 rfl (Nat.le_of_ble_eq_true rfl) dX9_freeCells_13 ⟨Nat.zero_le _, Nat.zero_le _⟩) hP hD hS hA [] rfl (fun _ => rfl) (fun _ => cw_X9_freeCells cI h h_ways g_book g_now g_places g_power g_spite g_milky g_sights g_sight g_signs g_pad g_offAt g_offWho g_reason g_acts g_enough g_rows g_counts g_pours g_image g_isKept f_ways) (fun _ => rfl) (fun r13 u13 H locs hw hP hD hS => ?_)
      obtain ⟨hn13, hw⟩ := hw
      try dsimp only at hw
      refine lv_if_ne (tgt := 30) hx hb dX9_freeCells_16 (by decide) (fun c16 => ?_) (fun c16 => ?_)
      · have hw := hw.2 c16
        exact J30 x3 x2 _ _ _ hw hP hD hS (lv_sub hl [0, 1, 3] rfl)
      have hw := hw.1 c16
      refine lv_aload_n hx hb dX9_freeCells_19 rfl (lv_at hl 0 rfl) ?_
      refine va_get (D := D) (ci := 9) (v := .ref h_ways) (C := RX9) (T := TX9) (N := 21) hx hb hz hX_X9 hown hK.1 hP 0 rfl rfl 5 (by decide) (hz _ z3_161) (fun _ h9 => h9) rfl dX9_freeCells_20 ?_
      refine lv_iload_n hx hb dX9_freeCells_23 rfl (lv_at hl 3 rfl) ?_
      obtain ⟨hi24, hw⟩ := hw
      refine va_iald hx hb hK.1 hP 1 0 rfl rfl hi24 dX9_freeCells_24 ?_
      refine lv_iload_n hx hb dX9_freeCells_25 rfl (lv_at hl 1 rfl) ?_
      refine lv_iand hx hb dX9_freeCells_26 ?_
      refine lv_if_eq (tgt := 34) hx hb dX9_freeCells_27 (by decide) (fun c27 => ?_) (fun c27 => ?_)
      · have hw := hw.1 c27
        refine lv_iconst (v := (1 : Int32)) hx hb dX9_freeCells_34 (by decide) ?_
        refine lv_iload_n hx hb dX9_freeCells_35 rfl (lv_at hl 3 rfl) ?_
        refine lv_ishl hx hb dX9_freeCells_36 ?_
        exact J37 x3 x2 ((1 : Int32) <<< (x3 &&& 31)) _ _ _ hw hP hD hS (lv_sub hl [0, 1, 3] rfl)
      have hw := hw.2 c27
      exact J30 x3 x2 _ _ _ hw hP hD hS (lv_sub hl [0, 1, 3] rfl)
  unfold w_X9_freeCells at hw
  refine lv_iconst (v := (0 : Int32)) hx hb dX9_freeCells_0 (by decide) ?_
  refine lv_istore_n (lv' := [(2, .int (0 : Int32)), (0, .ref h), (1, .int p1)]) hx hb dX9_freeCells_1 rfl hl (by decide) rfl (fun ls hl => ?_)
  refine lv_iconst (v := (0 : Int32)) hx hb dX9_freeCells_2 (by decide) ?_
  refine lv_istore_n (lv' := [(3, .int (0 : Int32)), (2, .int (0 : Int32)), (0, .ref h), (1, .int p1)]) hx hb dX9_freeCells_3 rfl hl (by decide) rfl (fun ls hl => ?_)
  obtain ⟨n4, hw⟩ := hw
  exact L4 n4 (0 : Int32) (0 : Int32) _ _ _ hw hP hD hS (lv_sub hl [2, 3, 1, 0] rfl)
abbrev cw_X9_stepsBy (cI : ClassId) (h h_ways : Nat) (g_book g_now g_places g_power g_spite g_milky g_sights g_sight g_signs g_pad g_offAt g_offWho g_reason g_acts g_enough g_rows g_counts g_pours g_image g_isKept : Value) (f_ways : Nat → Int32) : va_W := [(h, .inr (9, [g_book, g_now, g_places, g_power, g_spite, .ref h_ways, g_milky, g_sights, g_sight, g_signs, g_pad, g_offAt, g_offWho, g_reason, g_acts, g_enough, g_rows, g_counts, g_pours, g_image, g_isKept])), (h_ways, .inl (cI, 12, .inl f_ways))]
abbrev q_X9_stepsBy (D : va_G) (cI : ClassId) (h h_ways : Nat) (g_book g_now g_places g_power g_spite g_milky g_sights g_sight g_signs g_pad g_offAt g_offWho g_reason g_acts g_enough g_rows g_counts g_pours g_image g_isKept : Value) (post : Int32 → Prop) (f_ways : Nat → Int32) (A : Nat → Prop) : Array Value → State → Outcome → State → Prop := va_Qi (S := Unit) (fun r _ => post r ) (fun _ t => va_P D vwCl (cw_X9_stepsBy cI h h_ways g_book g_now g_places g_power g_spite g_milky g_sights g_sight g_signs g_pad g_offAt g_offWho g_reason g_acts g_enough g_rows g_counts g_pours g_image g_isKept f_ways) t.heap) A
abbrev v_X9_stepsBy : List Cond := .code yX9_stepsBy cX9_stepsBy 8 (some .int) :: zB
theorem hd_X9_stepsBy : yX9_stepsBy.cls = RX9 ∧ yX9_stepsBy.cls ≠ "java/lang/invoke/MethodHandle" ∧ yX9_stepsBy.cls ≠ "java/lang/invoke/VarHandle" ∧ (parseMethodDescriptor yX9_stepsBy.desc).map (fun d => d.parameters.length) = some 3 := by decide +kernel
set_option maxHeartbeats 4000000 in
set_option maxRecDepth 100000 in
theorem c_X9_stepsBy (l : Launch) (D : va_G) (cI cC cZ : ClassId) (h h_ways : Nat) (g_book g_now g_places g_power g_spite g_milky g_sights g_sight g_signs g_pad g_offAt g_offWho g_reason g_acts g_enough g_rows g_counts g_pours g_image g_isKept : Value) (f_ways : Nat → Int32) (p1 : Int32) (p2 : Int32) (p3 : Int32) (sz : Nat) (post : Int32 → Prop) (hw : w_X9_stepsBy post f_ways p1 p2 p3) : Met l yX9_stepsBy v_X9_stepsBy ({ frames := 1, cells := 0, slots := 0, locals := 21 } : Room) (va_Pc [.ref h, .int p1, .int p2, .int p3] (zPre D (zT cI cC cZ) sz (cw_X9_stepsBy cI h h_ways g_book g_now g_places g_power g_spite g_milky g_sights g_sight g_signs g_pad g_offAt g_offWho g_reason g_acts g_enough g_rows g_counts g_pours g_image g_isKept f_ways))) (q_X9_stepsBy D cI h h_ways g_book g_now g_places g_power g_spite g_milky g_sights g_sight g_signs g_pad g_offAt g_offWho g_reason g_acts g_enough g_rows g_counts g_pours g_image g_isKept post f_ways (va_A (cw_X9_stepsBy cI h h_ways g_book g_now g_places g_power g_spite g_milky g_sights g_sight g_signs g_pad g_offAt g_offWho g_reason g_acts g_enough g_rows g_counts g_pours g_image g_isKept f_ways) sz)) 0 0 (va_A (cw_X9_stepsBy cI h h_ways g_book g_now g_places g_power g_spite g_milky g_sights g_sight g_signs g_pad g_offAt g_offWho g_reason g_acts g_enough g_rows g_counts g_pours g_image g_isKept f_ways) sz) := by
  refine Met.ofW (cc := cX9_stepsBy) (maxL := 8) (ret := (some .int)) (by decide) rfl ?_
  intro p e s m args below meth c s₁ B hml hv
  obtain ⟨rfl, hsz, hP, hK, hD0⟩ := hv
  subst hsz
  have hx := B.exec
  have hb := B.bytes
  have hr := B.returns
  have hz : ∀ w ∈ zB, w.before _ s = true := fun w h => atoms_spec (ws := v_X9_stepsBy) B.pre w (List.mem_cons_of_mem _ h)
  have hown : s.vm.findClass RX9 = some m.cls := findClass_of_methodNamed B.named
  have hlocks := B.notSynchronized
  have hF : CallFix p m c cX9_stepsBy 8 s (([.ref h, .int p1, .int p2, .int p3] : List Value).toArray) zB RX9 := ⟨hx, hb, hml, hown, hz⟩
  have hD := hD0.self (sz := s.heap.size)
  generalize hAe : va_A (cw_X9_stepsBy cI h h_ways g_book g_now g_places g_power g_spite g_milky g_sights g_sight g_signs g_pad g_offAt g_offWho g_reason g_acts g_enough g_rows g_counts g_pours g_image g_isKept f_ways) s.heap.size = A at hD ⊢
  have hA : ∀ q : Nat, s.heap.size ≤ q → A q := fun q h => by rw [← hAe]; exact Or.inr h
  have hS : va_S A s.heap s.heap [] := va_S.rf
  have hP : va_P D vwCl (cw_X9_stepsBy cI h h_ways g_book g_now g_places g_power g_spite g_milky g_sights g_sight g_signs g_pad g_offAt g_offWho g_reason g_acts g_enough g_rows g_counts g_pours g_image g_isKept f_ways) s.heap := hP
  have hl := lv_entry ([.ref h, .int p1, .int p2, .int p3]) (n := 8) (Nat.le_of_ble_eq_true rfl)
  rw [lg_entry_eq]
  generalize (lg_sl ([.ref h, .int p1, .int p2, .int p3]) ++ List.replicate (8 - (lg_sl ([.ref h, .int p1, .int p2, .int p3])).length) Slot.unset).toArray = ls at hl ⊢
  have hl : lv_has ls 8 [(0, .ref h), (1, .int p1), (2, .int p2), (3, .int p3)] := hl
  have L10 : ∀ (n10 : Nat) (x4 : Int32) (x5 : Int32) (H : Heap) (locs : List Loc) (ls : Array Slot) (hw : w_X9_stepsBy_B10 post f_ways p1 p2 p3 n10 x4 x5) (hP : va_P D vwCl (cw_X9_stepsBy cI h h_ways g_book g_now g_places g_power g_spite g_milky g_sights g_sight g_signs g_pad g_offAt g_offWho g_reason g_acts g_enough g_rows g_counts g_pours g_image g_isKept f_ways) H) (hD : va_D A (cw_X9_stepsBy cI h h_ways g_book g_now g_places g_power g_spite g_milky g_sights g_sight g_signs g_pad g_offAt g_offWho g_reason g_acts g_enough g_rows g_counts g_pours g_image g_isKept f_ways)) (hS : va_S A s.heap H locs) (hl : lv_has ls 8 [(0, .ref h), (2, .int p2), (3, .int p3), (4, .int x4), (5, .int x5)]), W p l e (headSpec v_X9_stepsBy ({ frames := 1, cells := 0, slots := 0, locals := 21 } : Room)).room s m (([.ref h, .int p1, .int p2, .int p3] : List Value).toArray) below meth c H locs 0 0 (MQ below (q_X9_stepsBy D cI h h_ways g_book g_now g_places g_power g_spite g_milky g_sights g_sight g_signs g_pad g_offAt g_offWho g_reason g_acts g_enough g_rows g_counts g_pours g_image g_isKept post f_ways A) (([.ref h, .int p1, .int p2, .int p3] : List Value).toArray) s 0 0 A) (F0 m 10 ls []) := by
    intro n10
    induction n10 with
    | zero => intro x4 x5 H locs ls hw; exact False.elim hw
    | succ n10 ih10 =>
      have L36 : ∀ (n36 : Nat) (x4 : Int32) (x5 : Int32) (x6 : Int32) (x7 : Int32) (H : Heap) (locs : List Loc) (ls : Array Slot) (hw : w_X9_stepsBy_B36 post f_ways p1 p2 p3 (fun x4 x5 => w_X9_stepsBy_B10 post f_ways p1 p2 p3 n10 x4 x5) n36 x4 x5 x6 x7) (hP : va_P D vwCl (cw_X9_stepsBy cI h h_ways g_book g_now g_places g_power g_spite g_milky g_sights g_sight g_signs g_pad g_offAt g_offWho g_reason g_acts g_enough g_rows g_counts g_pours g_image g_isKept f_ways) H) (hD : va_D A (cw_X9_stepsBy cI h h_ways g_book g_now g_places g_power g_spite g_milky g_sights g_sight g_signs g_pad g_offAt g_offWho g_reason g_acts g_enough g_rows g_counts g_pours g_image g_isKept f_ways)) (hS : va_S A s.heap H locs) (hl : lv_has ls 8 [(0, .ref h), (2, .int p2), (3, .int p3), (4, .int x4), (5, .int x5), (6, .int x6), (7, .int x7)]), W p l e (headSpec v_X9_stepsBy ({ frames := 1, cells := 0, slots := 0, locals := 21 } : Room)).room s m (([.ref h, .int p1, .int p2, .int p3] : List Value).toArray) below meth c H locs 0 0 (MQ below (q_X9_stepsBy D cI h h_ways g_book g_now g_places g_power g_spite g_milky g_sights g_sight g_signs g_pad g_offAt g_offWho g_reason g_acts g_enough g_rows g_counts g_pours g_image g_isKept post f_ways A) (([.ref h, .int p1, .int p2, .int p3] : List Value).toArray) s 0 0 A) (F0 m 36 ls []) := by
        intro n36
        induction n36 with
        | zero => intro x4 x5 x6 x7 H locs ls hw; exact False.elim hw
        | succ n36 ih36 =>
          have J68 : ∀ (x5 : Int32) (x6 : Int32) (x7 : Int32) (s0 : Int32) (s1 : Int32) (H : Heap) (locs : List Loc) (ls : Array Slot) (hw : w_X9_stepsBy_B68 post f_ways p1 p2 p3 (fun x4 x5 => w_X9_stepsBy_B10 post f_ways p1 p2 p3 n10 x4 x5) (fun x4 x5 x6 x7 => w_X9_stepsBy_B36 post f_ways p1 p2 p3 (fun x4 x5 => w_X9_stepsBy_B10 post f_ways p1 p2 p3 n10 x4 x5) n36 x4 x5 x6 x7) x5 x6 x7 s0 s1) (hP : va_P D vwCl (cw_X9_stepsBy cI h h_ways g_book g_now g_places g_power g_spite g_milky g_sights g_sight g_signs g_pad g_offAt g_offWho g_reason g_acts g_enough g_rows g_counts g_pours g_image g_isKept f_ways) H) (hD : va_D A (cw_X9_stepsBy cI h h_ways g_book g_now g_places g_power g_spite g_milky g_sights g_sight g_signs g_pad g_offAt g_offWho g_reason g_acts g_enough g_rows g_counts g_pours g_image g_isKept f_ways)) (hS : va_S A s.heap H locs) (hl : lv_has ls 8 [(0, .ref h), (2, .int p2), (3, .int p3), (5, .int x5), (6, .int x6), (7, .int x7)]), W p l e (headSpec v_X9_stepsBy ({ frames := 1, cells := 0, slots := 0, locals := 21 } : Room)).room s m (([.ref h, .int p1, .int p2, .int p3] : List Value).toArray) below meth c H locs 0 0 (MQ below (q_X9_stepsBy D cI h h_ways g_book g_now g_places g_power g_spite g_milky g_sights g_sight g_signs g_pad g_offAt g_offWho g_reason g_acts g_enough g_rows g_counts g_pours g_image g_isKept post f_ways A) (([.ref h, .int p1, .int p2, .int p3] : List Value).toArray) s 0 0 A) (F0 m 68 ls [.int s1, .int s0]) := by
            intro x5 x6 x7 s0 s1 H locs ls hw hP hD hS hl
            unfold w_X9_stepsBy_B68 at hw
            refine lv_ior hx hb dX9_stepsBy_68 ?_
            refine lv_istore (lv' := [(4, .int (s0 ||| s1)), (0, .ref h), (2, .int p2), (3, .int p3), (5, .int x5), (6, .int x6), (7, .int x7)]) hx hb dX9_stepsBy_69 hl (by decide) rfl (fun ls hl => ?_)
            refine lv_iinc (k := 6) (v := (x7 + 1)) (lv' := [(7, .int (x7 + 1)), (4, .int (s0 ||| s1)), (0, .ref h), (2, .int p2), (3, .int p3), (5, .int x5), (6, .int x6)]) hx hb dX9_stepsBy_71 hl rfl rfl (by decide) rfl (fun ls hl => ?_)
            refine lv_goto (tgt := 36) hx hb dX9_stepsBy_74 (by decide) ?_
            exact ih36 (s0 ||| s1) x5 x6 (x7 + 1) _ _ _ hw hP hD hS (lv_sub hl [2, 3, 4, 1, 5, 6, 0] rfl)
          intro x4 x5 x6 x7 H locs ls hw hP hD hS hl
          unfold w_X9_stepsBy_B36 at hw
          refine lv_iload hx hb dX9_stepsBy_36 (lv_at hl 6 rfl) ?_
          refine lv_bipush (v := (12 : Int32)) hx hb dX9_stepsBy_38 (by decide) ?_
          refine lv_icmp_ge (tgt := 77) hx hb dX9_stepsBy_40 (by decide) (fun c40 => ?_) (fun c40 => ?_)
          · have hw := hw.1 c40
            refine lv_iinc (k := 4) (v := (x5 + 1)) (lv' := [(5, .int (x5 + 1)), (0, .ref h), (2, .int p2), (3, .int p3), (4, .int x4), (6, .int x6), (7, .int x7)]) hx hb dX9_stepsBy_77 hl rfl rfl (by decide) rfl (fun ls hl => ?_)
            refine lv_goto (tgt := 10) hx hb dX9_stepsBy_80 (by decide) ?_
            exact ih10 x4 (x5 + 1) _ _ _ hw hP hD hS (lv_sub hl [1, 2, 3, 4, 0] rfl)
          have hw := hw.2 c40
          refine lv_iload hx hb dX9_stepsBy_43 (lv_at hl 3 rfl) ?_
          refine lv_iload hx hb dX9_stepsBy_45 (lv_at hl 5 rfl) ?_
          refine lv_iload hx hb dX9_stepsBy_47 (lv_at hl 6 rfl) ?_
          refine z_ri (z_runS (As := [.int x6, .int x7]) (rest := [.int x4]) hF (c_X9_has l D cI cC cZ x6 x7 _ _ hw) (va_cwS 2 hz (z_gS z4_42 z4_43 z1_10 z4_44) rfl rfl rfl hd_X9_has ⟨Nat.le_of_ble_eq_true rfl, Nat.le_of_ble_eq_true rfl⟩) hK hP hD [] rfl rfl rfl hl.1 rfl (Nat.le_of_ble_eq_true rfl) dX9_stepsBy_49 ⟨Nat.zero_le _, Nat.zero_le _⟩) hP hD hS hA [] rfl (fun _ => rfl) (fun _ => cw_X9_stepsBy cI h h_ways g_book g_now g_places g_power g_spite g_milky g_sights g_sight g_signs g_pad g_offAt g_offWho g_reason g_acts g_enough g_rows g_counts g_pours g_image g_isKept f_ways) (fun _ => rfl) (fun r49 u49 H locs hw hP hD hS => ?_)
          obtain ⟨hn49, hw⟩ := hw
          try dsimp only at hw
          refine lv_if_eq (tgt := 67) hx hb dX9_stepsBy_52 (by decide) (fun c52 => ?_) (fun c52 => ?_)
          · have hw := hw.1 c52
            refine lv_iconst (v := (0 : Int32)) hx hb dX9_stepsBy_67 (by decide) ?_
            exact J68 x5 x6 x7 x4 (0 : Int32) _ _ _ hw hP hD hS (lv_sub hl [0, 1, 2, 4, 5, 6] rfl)
          have hw := hw.2 c52
          refine lv_aload_n hx hb dX9_stepsBy_55 rfl (lv_at hl 0 rfl) ?_
          refine va_get (D := D) (ci := 9) (v := .ref h_ways) (C := RX9) (T := TX9) (N := 21) hx hb hz hX_X9 hown hK.1 hP 0 rfl rfl 5 (by decide) (hz _ z3_161) (fun _ h9 => h9) rfl dX9_stepsBy_56 ?_
          refine lv_iload hx hb dX9_stepsBy_59 (lv_at hl 6 rfl) ?_
          obtain ⟨hi61, hw⟩ := hw
          refine va_iald hx hb hK.1 hP 1 0 rfl rfl hi61 dX9_stepsBy_61 ?_
          refine lv_iload_n hx hb dX9_stepsBy_62 rfl (lv_at hl 2 rfl) ?_
          refine lv_iand hx hb dX9_stepsBy_63 ?_
          refine lv_goto (tgt := 68) hx hb dX9_stepsBy_64 (by decide) ?_
          exact J68 x5 x6 x7 x4 ((f_ways x7.toNatClampNeg) &&& p3) _ _ _ hw hP hD hS (lv_sub hl [0, 1, 2, 4, 5, 6] rfl)
      intro x4 x5 H locs ls hw hP hD hS hl
      unfold w_X9_stepsBy_B10 at hw
      refine lv_iload hx hb dX9_stepsBy_10 (lv_at hl 4 rfl) ?_
      refine lv_bipush (v := (12 : Int32)) hx hb dX9_stepsBy_12 (by decide) ?_
      refine lv_icmp_ge (tgt := 83) hx hb dX9_stepsBy_14 (by decide) (fun c14 => ?_) (fun c14 => ?_)
      · have hw := hw.1 c14
        refine lv_bipush (v := (-6 : Int32)) hx hb dX9_stepsBy_83 (by decide) ?_
        exact z_iret hx hb hr hlocks () hw hP hS dX9_stepsBy_85
      have hw := hw.2 c14
      refine lv_iload hx hb dX9_stepsBy_17 (lv_at hl 3 rfl) ?_
      refine lv_iload_n hx hb dX9_stepsBy_19 rfl (lv_at hl 1 rfl) ?_
      refine z_ri (z_runS (As := [.int x4, .int p2]) (rest := []) hF (c_X9_has l D cI cC cZ x4 p2 _ _ hw) (va_cwS 2 hz (z_gS z4_42 z4_43 z1_10 z4_44) rfl rfl rfl hd_X9_has ⟨Nat.le_of_ble_eq_true rfl, Nat.le_of_ble_eq_true rfl⟩) hK hP hD [] rfl rfl rfl hl.1 rfl (Nat.le_of_ble_eq_true rfl) dX9_stepsBy_20 ⟨Nat.zero_le _, Nat.zero_le _⟩) hP hD hS hA [] rfl (fun _ => rfl) (fun _ => cw_X9_stepsBy cI h h_ways g_book g_now g_places g_power g_spite g_milky g_sights g_sight g_signs g_pad g_offAt g_offWho g_reason g_acts g_enough g_rows g_counts g_pours g_image g_isKept f_ways) (fun _ => rfl) (fun r20 u20 H locs hw hP hD hS => ?_)
      obtain ⟨hn20, hw⟩ := hw
      try dsimp only at hw
      refine lv_if_eq (tgt := 29) hx hb dX9_stepsBy_23 (by decide) (fun c23 => ?_) (fun c23 => ?_)
      · have hw := hw.1 c23
        refine lv_iload hx hb dX9_stepsBy_29 (lv_at hl 3 rfl) ?_
        refine lv_istore (lv' := [(6, .int x4), (0, .ref h), (2, .int p2), (3, .int p3), (4, .int x4), (5, .int x5)]) hx hb dX9_stepsBy_31 hl (by decide) rfl (fun ls hl => ?_)
        refine lv_iconst (v := (0 : Int32)) hx hb dX9_stepsBy_33 (by decide) ?_
        refine lv_istore (lv' := [(7, .int (0 : Int32)), (6, .int x4), (0, .ref h), (2, .int p2), (3, .int p3), (4, .int x4), (5, .int x5)]) hx hb dX9_stepsBy_34 hl (by decide) rfl (fun ls hl => ?_)
        obtain ⟨n36, hw⟩ := hw
        exact L36 n36 x4 x5 x4 (0 : Int32) _ _ _ hw hP hD hS (lv_sub hl [2, 3, 4, 5, 6, 1, 0] rfl)
      have hw := hw.2 c23
      refine lv_iload hx hb dX9_stepsBy_26 (lv_at hl 4 rfl) ?_
      exact z_iret hx hb hr hlocks () hw hP hS dX9_stepsBy_28
  unfold w_X9_stepsBy at hw
  refine lv_iload_n hx hb dX9_stepsBy_0 rfl (lv_at hl 3 rfl) ?_
  refine lv_iconst (v := (1 : Int32)) hx hb dX9_stepsBy_1 (by decide) ?_
  refine lv_iload_n hx hb dX9_stepsBy_2 rfl (lv_at hl 1 rfl) ?_
  refine lv_ishl hx hb dX9_stepsBy_3 ?_
  refine lv_iand hx hb dX9_stepsBy_4 ?_
  refine lv_topi (fun y5 ey5 => ?_)
  have hw := hw y5 ey5
  refine lv_istore (lv' := [(4, .int y5), (0, .ref h), (1, .int p1), (2, .int p2), (3, .int p3)]) hx hb dX9_stepsBy_5 hl (by decide) rfl (fun ls hl => ?_)
  refine lv_iconst (v := (0 : Int32)) hx hb dX9_stepsBy_7 (by decide) ?_
  refine lv_istore (lv' := [(5, .int (0 : Int32)), (4, .int y5), (0, .ref h), (1, .int p1), (2, .int p2), (3, .int p3)]) hx hb dX9_stepsBy_8 hl (by decide) rfl (fun ls hl => ?_)
  obtain ⟨n10, hw⟩ := hw
  exact L10 n10 y5 (0 : Int32) _ _ _ hw hP hD hS (lv_sub hl [2, 4, 5, 1, 0] rfl)
abbrev cw_X9_round (cI : ClassId) (h h_ways : Nat) (g_book g_now g_places g_power g_spite g_sights g_sight g_signs g_pad g_offAt g_offWho g_reason g_acts g_enough g_rows g_counts g_pours g_image g_isKept : Value) (f_ways : Nat → Int32) (f_milky : Int32) : va_W := [(h, .inr (9, [g_book, g_now, g_places, g_power, g_spite, .ref h_ways, .int f_milky, g_sights, g_sight, g_signs, g_pad, g_offAt, g_offWho, g_reason, g_acts, g_enough, g_rows, g_counts, g_pours, g_image, g_isKept])), (h_ways, .inl (cI, 12, .inl f_ways))]
abbrev q_X9_round (D : va_G) (cI : ClassId) (h h_ways : Nat) (g_book g_now g_places g_power g_spite g_sights g_sight g_signs g_pad g_offAt g_offWho g_reason g_acts g_enough g_rows g_counts g_pours g_image g_isKept : Value) (post : Int32 → Prop) (f_ways : Nat → Int32) (f_milky : Int32) (A : Nat → Prop) : Array Value → State → Outcome → State → Prop := va_Qi (S := Unit) (fun r _ => post r ) (fun _ t => va_P D vwCl (cw_X9_round cI h h_ways g_book g_now g_places g_power g_spite g_sights g_sight g_signs g_pad g_offAt g_offWho g_reason g_acts g_enough g_rows g_counts g_pours g_image g_isKept f_ways f_milky) t.heap) A
abbrev v_X9_round : List Cond := .code yX9_round cX9_round 7 (some .int) :: zB
theorem hd_X9_round : yX9_round.cls = RX9 ∧ yX9_round.cls ≠ "java/lang/invoke/MethodHandle" ∧ yX9_round.cls ≠ "java/lang/invoke/VarHandle" ∧ (parseMethodDescriptor yX9_round.desc).map (fun d => d.parameters.length) = some 3 := by decide +kernel
set_option maxHeartbeats 4000000 in
set_option maxRecDepth 100000 in
theorem c_X9_round (l : Launch) (D : va_G) (cI cC cZ : ClassId) (h h_ways : Nat) (g_book g_now g_places g_power g_spite g_sights g_sight g_signs g_pad g_offAt g_offWho g_reason g_acts g_enough g_rows g_counts g_pours g_image g_isKept : Value) (f_ways : Nat → Int32) (f_milky : Int32) (p1 : Int32) (p2 : Int32) (p3 : Int32) (sz : Nat) (post : Int32 → Prop) (hw : w_X9_round post f_ways f_milky p1 p2 p3) : Met l yX9_round v_X9_round ({ frames := 2, cells := 0, slots := 0, locals := 48 } : Room) (va_Pc [.ref h, .int p1, .int p2, .int p3] (zPre D (zT cI cC cZ) sz (cw_X9_round cI h h_ways g_book g_now g_places g_power g_spite g_sights g_sight g_signs g_pad g_offAt g_offWho g_reason g_acts g_enough g_rows g_counts g_pours g_image g_isKept f_ways f_milky))) (q_X9_round D cI h h_ways g_book g_now g_places g_power g_spite g_sights g_sight g_signs g_pad g_offAt g_offWho g_reason g_acts g_enough g_rows g_counts g_pours g_image g_isKept post f_ways f_milky (va_A (cw_X9_round cI h h_ways g_book g_now g_places g_power g_spite g_sights g_sight g_signs g_pad g_offAt g_offWho g_reason g_acts g_enough g_rows g_counts g_pours g_image g_isKept f_ways f_milky) sz)) 0 0 (va_A (cw_X9_round cI h h_ways g_book g_now g_places g_power g_spite g_sights g_sight g_signs g_pad g_offAt g_offWho g_reason g_acts g_enough g_rows g_counts g_pours g_image g_isKept f_ways f_milky) sz) := by
  refine Met.ofW (cc := cX9_round) (maxL := 7) (ret := (some .int)) (by decide) rfl ?_
  intro p e s m args below meth c s₁ B hml hv
  obtain ⟨rfl, hsz, hP, hK, hD0⟩ := hv
  subst hsz
  have hx := B.exec
  have hb := B.bytes
  have hr := B.returns
  have hz : ∀ w ∈ zB, w.before _ s = true := fun w h => atoms_spec (ws := v_X9_round) B.pre w (List.mem_cons_of_mem _ h)
  have hown : s.vm.findClass RX9 = some m.cls := findClass_of_methodNamed B.named
  have hlocks := B.notSynchronized
  have hF : CallFix p m c cX9_round 7 s (([.ref h, .int p1, .int p2, .int p3] : List Value).toArray) zB RX9 := ⟨hx, hb, hml, hown, hz⟩
  have hD := hD0.self (sz := s.heap.size)
  generalize hAe : va_A (cw_X9_round cI h h_ways g_book g_now g_places g_power g_spite g_sights g_sight g_signs g_pad g_offAt g_offWho g_reason g_acts g_enough g_rows g_counts g_pours g_image g_isKept f_ways f_milky) s.heap.size = A at hD ⊢
  have hA : ∀ q : Nat, s.heap.size ≤ q → A q := fun q h => by rw [← hAe]; exact Or.inr h
  have hS : va_S A s.heap s.heap [] := va_S.rf
  have hP : va_P D vwCl (cw_X9_round cI h h_ways g_book g_now g_places g_power g_spite g_sights g_sight g_signs g_pad g_offAt g_offWho g_reason g_acts g_enough g_rows g_counts g_pours g_image g_isKept f_ways f_milky) s.heap := hP
  have hl := lv_entry ([.ref h, .int p1, .int p2, .int p3]) (n := 7) (Nat.le_of_ble_eq_true rfl)
  rw [lg_entry_eq]
  generalize (lg_sl ([.ref h, .int p1, .int p2, .int p3]) ++ List.replicate (7 - (lg_sl ([.ref h, .int p1, .int p2, .int p3])).length) Slot.unset).toArray = ls at hl ⊢
  have hl : lv_has ls 7 [(0, .ref h), (1, .int p1), (2, .int p2), (3, .int p3)] := hl
  have J57 : ∀ (x5 : Int32) (H : Heap) (locs : List Loc) (ls : Array Slot) (hw : w_X9_round_B57 post f_ways f_milky p1 p2 p3 x5) (hP : va_P D vwCl (cw_X9_round cI h h_ways g_book g_now g_places g_power g_spite g_sights g_sight g_signs g_pad g_offAt g_offWho g_reason g_acts g_enough g_rows g_counts g_pours g_image g_isKept f_ways f_milky) H) (hD : va_D A (cw_X9_round cI h h_ways g_book g_now g_places g_power g_spite g_sights g_sight g_signs g_pad g_offAt g_offWho g_reason g_acts g_enough g_rows g_counts g_pours g_image g_isKept f_ways f_milky)) (hS : va_S A s.heap H locs) (hl : lv_has ls 7 [(3, .int p3), (5, .int x5)]), W p l e (headSpec v_X9_round ({ frames := 2, cells := 0, slots := 0, locals := 48 } : Room)).room s m (([.ref h, .int p1, .int p2, .int p3] : List Value).toArray) below meth c H locs 0 0 (MQ below (q_X9_round D cI h h_ways g_book g_now g_places g_power g_spite g_sights g_sight g_signs g_pad g_offAt g_offWho g_reason g_acts g_enough g_rows g_counts g_pours g_image g_isKept post f_ways f_milky A) (([.ref h, .int p1, .int p2, .int p3] : List Value).toArray) s 0 0 A) (F0 m 57 ls []) := by
    intro x5 H locs ls hw hP hD hS hl
    unfold w_X9_round_B57 at hw
    refine lv_iload_n hx hb dX9_round_57 rfl (lv_at hl 0 rfl) ?_
    refine lv_if_ne (tgt := 66) hx hb dX9_round_58 (by decide) (fun c58 => ?_) (fun c58 => ?_)
    · have hw := hw.2 c58
      refine lv_bipush (v := (-6 : Int32)) hx hb dX9_round_66 (by decide) ?_
      exact z_iret hx hb hr hlocks () hw hP hS dX9_round_68
    have hw := hw.1 c58
    refine lv_iload hx hb dX9_round_61 (lv_at hl 1 rfl) ?_
    refine lv_goto (tgt := 68) hx hb dX9_round_63 (by decide) ?_
    exact z_iret hx hb hr hlocks () hw hP hS dX9_round_68
  have L72 : ∀ (n72 : Nat) (x4 : Int32) (x5 : Int32) (x6 : Int32) (H : Heap) (locs : List Loc) (ls : Array Slot) (hw : w_X9_round_B72 post f_ways f_milky p1 p2 p3 n72 x4 x5 x6) (hP : va_P D vwCl (cw_X9_round cI h h_ways g_book g_now g_places g_power g_spite g_sights g_sight g_signs g_pad g_offAt g_offWho g_reason g_acts g_enough g_rows g_counts g_pours g_image g_isKept f_ways f_milky) H) (hD : va_D A (cw_X9_round cI h h_ways g_book g_now g_places g_power g_spite g_sights g_sight g_signs g_pad g_offAt g_offWho g_reason g_acts g_enough g_rows g_counts g_pours g_image g_isKept f_ways f_milky)) (hS : va_S A s.heap H locs) (hl : lv_has ls 7 [(0, .ref h), (1, .int p1), (2, .int p2), (4, .int x4), (5, .int x5), (6, .int x6)]), W p l e (headSpec v_X9_round ({ frames := 2, cells := 0, slots := 0, locals := 48 } : Room)).room s m (([.ref h, .int p1, .int p2, .int p3] : List Value).toArray) below meth c H locs 0 0 (MQ below (q_X9_round D cI h h_ways g_book g_now g_places g_power g_spite g_sights g_sight g_signs g_pad g_offAt g_offWho g_reason g_acts g_enough g_rows g_counts g_pours g_image g_isKept post f_ways f_milky A) (([.ref h, .int p1, .int p2, .int p3] : List Value).toArray) s 0 0 A) (F0 m 72 ls []) := by
    intro n72
    induction n72 with
    | zero => intro x4 x5 x6 H locs ls hw; exact False.elim hw
    | succ n72 ih72 =>
      intro x4 x5 x6 H locs ls hw hP hD hS hl
      unfold w_X9_round_B72 at hw
      refine lv_aload_n hx hb dX9_round_72 rfl (lv_at hl 0 rfl) ?_
      refine va_get (D := D) (ci := 9) (v := .ref h_ways) (C := RX9) (T := TX9) (N := 21) hx hb hz hX_X9 hown hK.1 hP 0 rfl rfl 5 (by decide) (hz _ z3_161) (fun _ h9 => h9) rfl dX9_round_73 ?_
      refine lv_iload_n hx hb dX9_round_76 rfl (lv_at hl 1 rfl) ?_
      obtain ⟨hi77, hw⟩ := hw
      refine va_iald hx hb hK.1 hP 1 0 rfl rfl hi77 dX9_round_77 ?_
      refine lv_iload hx hb dX9_round_78 (lv_at hl 3 rfl) ?_
      refine lv_iand hx hb dX9_round_80 ?_
      refine lv_iload hx hb dX9_round_81 (lv_at hl 5 rfl) ?_
      refine z_ri (z_runS (As := [.int ((f_ways p1.toNatClampNeg) &&& x4), .int x6]) (rest := []) hF (c_X9_has l D cI cC cZ ((f_ways p1.toNatClampNeg) &&& x4) x6 _ _ hw) (va_cwS 2 hz (z_gS z4_42 z4_43 z1_10 z4_44) rfl rfl rfl hd_X9_has ⟨Nat.le_of_ble_eq_true rfl, Nat.le_of_ble_eq_true rfl⟩) hK hP hD [] rfl rfl rfl hl.1 rfl (Nat.le_of_ble_eq_true rfl) dX9_round_83 ⟨Nat.zero_le _, Nat.zero_le _⟩) hP hD hS hA [] rfl (fun _ => rfl) (fun _ => cw_X9_round cI h h_ways g_book g_now g_places g_power g_spite g_sights g_sight g_signs g_pad g_offAt g_offWho g_reason g_acts g_enough g_rows g_counts g_pours g_image g_isKept f_ways f_milky) (fun _ => rfl) (fun r83 u83 H locs hw hP hD hS => ?_)
      obtain ⟨hn83, hw⟩ := hw
      try dsimp only at hw
      refine lv_if_eq (tgt := 105) hx hb dX9_round_86 (by decide) (fun c86 => ?_) (fun c86 => ?_)
      · have hw := hw.1 c86
        refine lv_iinc (k := 5) (v := (x6 + 1)) (lv' := [(6, .int (x6 + 1)), (0, .ref h), (1, .int p1), (2, .int p2), (4, .int x4), (5, .int x5)]) hx hb dX9_round_105 hl rfl rfl (by decide) rfl (fun ls hl => ?_)
        refine lv_goto (tgt := 72) hx hb dX9_round_108 (by decide) ?_
        exact ih72 x4 x5 (x6 + 1) _ _ _ hw hP hD hS (lv_sub hl [1, 2, 3, 4, 5, 0] rfl)
      have hw := hw.2 c86
      refine lv_aload_n hx hb dX9_round_89 rfl (lv_at hl 0 rfl) ?_
      refine lv_iload hx hb dX9_round_90 (lv_at hl 5 rfl) ?_
      refine lv_iload_n hx hb dX9_round_92 rfl (lv_at hl 2 rfl) ?_
      refine lv_iload hx hb dX9_round_93 (lv_at hl 3 rfl) ?_
      refine z_ri (z_runV (As := [.int x6, .int p2, .int x4]) (rest := []) hF (c_X9_stepsBy l D cI cC cZ h h_ways g_book g_now g_places g_power g_spite (.int f_milky) g_sights g_sight g_signs g_pad g_offAt g_offWho g_reason g_acts g_enough g_rows g_counts g_pours g_image g_isKept f_ways x6 p2 x4 _ _ hw) (cwV 3 hz (z_gV z4_122 z4_124 zp_33 z1_10 z4_125) rfl rfl rfl hd_X9_stepsBy ⟨Nat.le_of_ble_eq_true rfl, Nat.le_of_ble_eq_true rfl⟩) hK hP hD [0, 1] rfl rfl 0 9 rfl rfl rfl rfl hl.1 rfl (Nat.le_of_ble_eq_true rfl) dX9_round_95 ⟨Nat.zero_le _, Nat.zero_le _⟩) hP hD hS hA [0, 1] rfl (fun _ => rfl) (fun _ => cw_X9_round cI h h_ways g_book g_now g_places g_power g_spite g_sights g_sight g_signs g_pad g_offAt g_offWho g_reason g_acts g_enough g_rows g_counts g_pours g_image g_isKept f_ways f_milky) (fun _ => rfl) (fun r95 u95 H locs hw hP hD hS => ?_)
      try dsimp only at hw
      refine lv_iload hx hb dX9_round_98 (lv_at hl 4 rfl) ?_
      refine lv_iconst (v := (1 : Int32)) hx hb dX9_round_100 (by decide) ?_
      refine lv_isub hx hb dX9_round_101 ?_
      refine lv_icmp_eq (tgt := 111) hx hb dX9_round_102 (by decide) (fun c102 => ?_) (fun c102 => ?_)
      · have hw := hw.1 c102
        refine lv_iload hx hb dX9_round_111 (lv_at hl 5 rfl) ?_
        exact z_iret hx hb hr hlocks () hw hP hS dX9_round_113
      have hw := hw.2 c102
      refine lv_iinc (k := 5) (v := (x6 + 1)) (lv' := [(6, .int (x6 + 1)), (0, .ref h), (1, .int p1), (2, .int p2), (4, .int x4), (5, .int x5)]) hx hb dX9_round_105 hl rfl rfl (by decide) rfl (fun ls hl => ?_)
      refine lv_goto (tgt := 72) hx hb dX9_round_108 (by decide) ?_
      exact ih72 x4 x5 (x6 + 1) _ _ _ hw hP hD hS (lv_sub hl [1, 2, 3, 4, 5, 0] rfl)
  unfold w_X9_round at hw
  refine lv_iload_n hx hb dX9_round_0 rfl (lv_at hl 1 rfl) ?_
  refine z_ri (z_runS (As := [.int p1]) (rest := []) hF (c_X9_isCell l D cI cC cZ p1 _ _ hw) (va_cwS 1 hz (z_gS z3_239 z4_0 z1_10 z4_1) rfl rfl rfl hd_X9_isCell ⟨Nat.le_of_ble_eq_true rfl, Nat.le_of_ble_eq_true rfl⟩) hK hP hD [] rfl rfl rfl hl.1 rfl (Nat.le_of_ble_eq_true rfl) dX9_round_1 ⟨Nat.zero_le _, Nat.zero_le _⟩) hP hD hS hA [] rfl (fun _ => rfl) (fun _ => cw_X9_round cI h h_ways g_book g_now g_places g_power g_spite g_sights g_sight g_signs g_pad g_offAt g_offWho g_reason g_acts g_enough g_rows g_counts g_pours g_image g_isKept f_ways f_milky) (fun _ => rfl) (fun r1 u1 H locs hw hP hD hS => ?_)
  obtain ⟨hn1, hw⟩ := hw
  try dsimp only at hw
  refine lv_if_eq (tgt := 14) hx hb dX9_round_4 (by decide) (fun c4 => ?_) (fun c4 => ?_)
  · have hw := hw.1 c4
    refine lv_iconst (v := (-1 : Int32)) hx hb dX9_round_14 (by decide) ?_
    exact z_iret hx hb hr hlocks () hw hP hS dX9_round_15
  have hw := hw.2 c4
  refine lv_iload_n hx hb dX9_round_7 rfl (lv_at hl 2 rfl) ?_
  refine z_ri (z_runS (As := [.int p2]) (rest := []) hF (c_X9_isCell l D cI cC cZ p2 _ _ hw) (va_cwS 1 hz (z_gS z3_239 z4_0 z1_10 z4_1) rfl rfl rfl hd_X9_isCell ⟨Nat.le_of_ble_eq_true rfl, Nat.le_of_ble_eq_true rfl⟩) hK hP hD [] rfl rfl rfl hl.1 rfl (Nat.le_of_ble_eq_true rfl) dX9_round_8 ⟨Nat.zero_le _, Nat.zero_le _⟩) hP hD hS hA [] rfl (fun _ => rfl) (fun _ => cw_X9_round cI h h_ways g_book g_now g_places g_power g_spite g_sights g_sight g_signs g_pad g_offAt g_offWho g_reason g_acts g_enough g_rows g_counts g_pours g_image g_isKept f_ways f_milky) (fun _ => rfl) (fun r8 u8 H locs hw hP hD hS => ?_)
  obtain ⟨hn8, hw⟩ := hw
  try dsimp only at hw
  refine lv_if_ne (tgt := 16) hx hb dX9_round_11 (by decide) (fun c11 => ?_) (fun c11 => ?_)
  · have hw := hw.2 c11
    refine lv_iload_n hx hb dX9_round_16 rfl (lv_at hl 3 rfl) ?_
    refine lv_iconst (v := (0 : Int32)) hx hb dX9_round_17 (by decide) ?_
    refine lv_iconst (v := (1 : Int32)) hx hb dX9_round_18 (by decide) ?_
    refine z_ri (z_runS (As := [.int p3, .int (0 : Int32), .int (1 : Int32)]) (rest := []) hF (c_X9_in l D cI cC cZ p3 (0 : Int32) (1 : Int32) _ _ hw) (va_cwS 3 hz (z_gS z3_225 z3_226 z1_10 z3_227) rfl rfl rfl hd_X9_in ⟨Nat.le_of_ble_eq_true rfl, Nat.le_of_ble_eq_true rfl⟩) hK hP hD [] rfl rfl rfl hl.1 rfl (Nat.le_of_ble_eq_true rfl) dX9_round_19 ⟨Nat.zero_le _, Nat.zero_le _⟩) hP hD hS hA [] rfl (fun _ => rfl) (fun _ => cw_X9_round cI h h_ways g_book g_now g_places g_power g_spite g_sights g_sight g_signs g_pad g_offAt g_offWho g_reason g_acts g_enough g_rows g_counts g_pours g_image g_isKept f_ways f_milky) (fun _ => rfl) (fun r19 u19 H locs hw hP hD hS => ?_)
    obtain ⟨hn19, hw⟩ := hw
    try dsimp only at hw
    refine lv_if_ne (tgt := 28) hx hb dX9_round_22 (by decide) (fun c22 => ?_) (fun c22 => ?_)
    · have hw := hw.2 c22
      refine lv_aload_n hx hb dX9_round_28 rfl (lv_at hl 0 rfl) ?_
      refine lv_aload_n hx hb dX9_round_29 rfl (lv_at hl 0 rfl) ?_
      refine va_get (D := D) (ci := 9) (v := .int f_milky) (C := RX9) (T := TX9) (N := 21) hx hb hz hX_X9 hown hK.1 hP 0 rfl rfl 6 (by decide) (hz _ z3_162) (fun _ h9 => h9) rfl dX9_round_30 ?_
      refine z_ri (z_runV (As := [.int f_milky]) (rest := []) hF (c_X9_freeCells l D cI cC cZ h h_ways g_book g_now g_places g_power g_spite (.int f_milky) g_sights g_sight g_signs g_pad g_offAt g_offWho g_reason g_acts g_enough g_rows g_counts g_pours g_image g_isKept f_ways f_milky _ _ hw) (cwV 1 hz (z_gV z4_118 z4_120 zp_32 z1_10 z4_121) rfl rfl rfl hd_X9_freeCells ⟨Nat.le_of_ble_eq_true rfl, Nat.le_of_ble_eq_true rfl⟩) hK hP hD [0, 1] rfl rfl 0 9 rfl rfl rfl rfl hl.1 rfl (Nat.le_of_ble_eq_true rfl) dX9_round_33 ⟨Nat.zero_le _, Nat.zero_le _⟩) hP hD hS hA [0, 1] rfl (fun _ => rfl) (fun _ => cw_X9_round cI h h_ways g_book g_now g_places g_power g_spite g_sights g_sight g_signs g_pad g_offAt g_offWho g_reason g_acts g_enough g_rows g_counts g_pours g_image g_isKept f_ways f_milky) (fun _ => rfl) (fun r33 u33 H locs hw hP hD hS => ?_)
      try dsimp only at hw
      refine lv_istore (lv' := [(4, .int r33), (0, .ref h), (1, .int p1), (2, .int p2), (3, .int p3)]) hx hb dX9_round_36 hl (by decide) rfl (fun ls hl => ?_)
      refine lv_aload_n hx hb dX9_round_38 rfl (lv_at hl 1 rfl) ?_
      refine lv_iload_n hx hb dX9_round_39 rfl (lv_at hl 2 rfl) ?_
      refine lv_iload_n hx hb dX9_round_40 rfl (lv_at hl 3 rfl) ?_
      refine lv_iload hx hb dX9_round_41 (lv_at hl 0 rfl) ?_
      refine z_ri (z_runV (As := [.int p1, .int p2, .int r33]) (rest := []) hF (c_X9_stepsBy l D cI cC cZ h h_ways g_book g_now g_places g_power g_spite (.int f_milky) g_sights g_sight g_signs g_pad g_offAt g_offWho g_reason g_acts g_enough g_rows g_counts g_pours g_image g_isKept f_ways p1 p2 r33 _ _ hw) (cwV 3 hz (z_gV z4_122 z4_124 zp_33 z1_10 z4_125) rfl rfl rfl hd_X9_stepsBy ⟨Nat.le_of_ble_eq_true rfl, Nat.le_of_ble_eq_true rfl⟩) hK hP hD [0, 1] rfl rfl 0 9 rfl rfl rfl rfl hl.1 rfl (Nat.le_of_ble_eq_true rfl) dX9_round_43 ⟨Nat.zero_le _, Nat.zero_le _⟩) hP hD hS hA [0, 1] rfl (fun _ => rfl) (fun _ => cw_X9_round cI h h_ways g_book g_now g_places g_power g_spite g_sights g_sight g_signs g_pad g_offAt g_offWho g_reason g_acts g_enough g_rows g_counts g_pours g_image g_isKept f_ways f_milky) (fun _ => rfl) (fun r43 u43 H locs hw hP hD hS => ?_)
      try dsimp only at hw
      refine lv_istore (lv' := [(5, .int r43), (4, .int r33), (0, .ref h), (1, .int p1), (2, .int p2), (3, .int p3)]) hx hb dX9_round_46 hl (by decide) rfl (fun ls hl => ?_)
      refine lv_iload_n hx hb dX9_round_48 rfl (lv_at hl 5 rfl) ?_
      refine lv_if_eq (tgt := 57) hx hb dX9_round_49 (by decide) (fun c49 => ?_) (fun c49 => ?_)
      · have hw := hw.1 c49
        exact J57 r43 _ _ _ hw hP hD hS (lv_sub hl [5, 0] rfl)
      have hw := hw.2 c49
      refine lv_iload hx hb dX9_round_52 (lv_at hl 0 rfl) ?_
      refine lv_if_gt (tgt := 69) hx hb dX9_round_54 (by decide) (fun c54 => ?_) (fun c54 => ?_)
      · have hw := hw.1 c54
        refine lv_iconst (v := (0 : Int32)) hx hb dX9_round_69 (by decide) ?_
        refine lv_istore (lv' := [(6, .int (0 : Int32)), (5, .int r43), (4, .int r33), (0, .ref h), (1, .int p1), (2, .int p2), (3, .int p3)]) hx hb dX9_round_70 hl (by decide) rfl (fun ls hl => ?_)
        obtain ⟨n72, hw⟩ := hw
        exact L72 n72 r33 r43 (0 : Int32) _ _ _ hw hP hD hS (lv_sub hl [3, 4, 5, 2, 1, 0] rfl)
      have hw := hw.2 c54
      exact J57 r43 _ _ _ hw hP hD hS (lv_sub hl [5, 0] rfl)
    have hw := hw.1 c22
    refine lv_bipush (v := (-2 : Int32)) hx hb dX9_round_25 (by decide) ?_
    exact z_iret hx hb hr hlocks () hw hP hS dX9_round_27
  have hw := hw.1 c11
  refine lv_iconst (v := (-1 : Int32)) hx hb dX9_round_14 (by decide) ?_
  exact z_iret hx hb hr hlocks () hw hP hS dX9_round_15
abbrev cw_X9_shun (cI : ClassId) (h h_ways : Nat) (g_book g_now g_places g_power g_spite g_sights g_sight g_signs g_pad g_offAt g_offWho g_reason g_acts g_enough g_rows g_counts g_pours g_image g_isKept : Value) (f_ways : Nat → Int32) (f_milky : Int32) : va_W := [(h, .inr (9, [g_book, g_now, g_places, g_power, g_spite, .ref h_ways, .int f_milky, g_sights, g_sight, g_signs, g_pad, g_offAt, g_offWho, g_reason, g_acts, g_enough, g_rows, g_counts, g_pours, g_image, g_isKept])), (h_ways, .inl (cI, 12, .inl f_ways))]
abbrev q_X9_shun (D : va_G) (cI : ClassId) (h h_ways : Nat) (g_book g_now g_places g_power g_spite g_sights g_sight g_signs g_pad g_offAt g_offWho g_reason g_acts g_enough g_rows g_counts g_pours g_image g_isKept : Value) (post : Int32 → Prop) (f_ways : Nat → Int32) (f_milky : Int32) (A : Nat → Prop) : Array Value → State → Outcome → State → Prop := va_Qi (S := Unit) (fun r _ => post r ) (fun _ t => va_P D vwCl (cw_X9_shun cI h h_ways g_book g_now g_places g_power g_spite g_sights g_sight g_signs g_pad g_offAt g_offWho g_reason g_acts g_enough g_rows g_counts g_pours g_image g_isKept f_ways f_milky) t.heap) A
abbrev v_X9_shun : List Cond := .code yX9_shun cX9_shun 7 (some .int) :: zB
theorem hd_X9_shun : yX9_shun.cls = RX9 ∧ yX9_shun.cls ≠ "java/lang/invoke/MethodHandle" ∧ yX9_shun.cls ≠ "java/lang/invoke/VarHandle" ∧ (parseMethodDescriptor yX9_shun.desc).map (fun d => d.parameters.length) = some 3 := by decide +kernel
set_option maxHeartbeats 4000000 in
set_option maxRecDepth 100000 in
theorem c_X9_shun (l : Launch) (D : va_G) (cI cC cZ : ClassId) (h h_ways : Nat) (g_book g_now g_places g_power g_spite g_sights g_sight g_signs g_pad g_offAt g_offWho g_reason g_acts g_enough g_rows g_counts g_pours g_image g_isKept : Value) (f_ways : Nat → Int32) (f_milky : Int32) (p1 : Int32) (p2 : Int32) (p3 : Int32) (sz : Nat) (post : Int32 → Prop) (hw : w_X9_shun post f_ways f_milky p1 p2 p3) : Met l yX9_shun v_X9_shun ({ frames := 2, cells := 0, slots := 0, locals := 48 } : Room) (va_Pc [.ref h, .int p1, .int p2, .int p3] (zPre D (zT cI cC cZ) sz (cw_X9_shun cI h h_ways g_book g_now g_places g_power g_spite g_sights g_sight g_signs g_pad g_offAt g_offWho g_reason g_acts g_enough g_rows g_counts g_pours g_image g_isKept f_ways f_milky))) (q_X9_shun D cI h h_ways g_book g_now g_places g_power g_spite g_sights g_sight g_signs g_pad g_offAt g_offWho g_reason g_acts g_enough g_rows g_counts g_pours g_image g_isKept post f_ways f_milky (va_A (cw_X9_shun cI h h_ways g_book g_now g_places g_power g_spite g_sights g_sight g_signs g_pad g_offAt g_offWho g_reason g_acts g_enough g_rows g_counts g_pours g_image g_isKept f_ways f_milky) sz)) 0 0 (va_A (cw_X9_shun cI h h_ways g_book g_now g_places g_power g_spite g_sights g_sight g_signs g_pad g_offAt g_offWho g_reason g_acts g_enough g_rows g_counts g_pours g_image g_isKept f_ways f_milky) sz) := by
  refine Met.ofW (cc := cX9_shun) (maxL := 7) (ret := (some .int)) (by decide) rfl ?_
  intro p e s m args below meth c s₁ B hml hv
  obtain ⟨rfl, hsz, hP, hK, hD0⟩ := hv
  subst hsz
  have hx := B.exec
  have hb := B.bytes
  have hr := B.returns
  have hz : ∀ w ∈ zB, w.before _ s = true := fun w h => atoms_spec (ws := v_X9_shun) B.pre w (List.mem_cons_of_mem _ h)
  have hown : s.vm.findClass RX9 = some m.cls := findClass_of_methodNamed B.named
  have hlocks := B.notSynchronized
  have hF : CallFix p m c cX9_shun 7 s (([.ref h, .int p1, .int p2, .int p3] : List Value).toArray) zB RX9 := ⟨hx, hb, hml, hown, hz⟩
  have hD := hD0.self (sz := s.heap.size)
  generalize hAe : va_A (cw_X9_shun cI h h_ways g_book g_now g_places g_power g_spite g_sights g_sight g_signs g_pad g_offAt g_offWho g_reason g_acts g_enough g_rows g_counts g_pours g_image g_isKept f_ways f_milky) s.heap.size = A at hD ⊢
  have hA : ∀ q : Nat, s.heap.size ≤ q → A q := fun q h => by rw [← hAe]; exact Or.inr h
  have hS : va_S A s.heap s.heap [] := va_S.rf
  have hP : va_P D vwCl (cw_X9_shun cI h h_ways g_book g_now g_places g_power g_spite g_sights g_sight g_signs g_pad g_offAt g_offWho g_reason g_acts g_enough g_rows g_counts g_pours g_image g_isKept f_ways f_milky) s.heap := hP
  have hl := lv_entry ([.ref h, .int p1, .int p2, .int p3]) (n := 7) (Nat.le_of_ble_eq_true rfl)
  rw [lg_entry_eq]
  generalize (lg_sl ([.ref h, .int p1, .int p2, .int p3]) ++ List.replicate (7 - (lg_sl ([.ref h, .int p1, .int p2, .int p3])).length) Slot.unset).toArray = ls at hl ⊢
  have hl : lv_has ls 7 [(0, .ref h), (1, .int p1), (2, .int p2), (3, .int p3)] := hl
  have J127 : ∀ (x4 : Int32) (H : Heap) (locs : List Loc) (ls : Array Slot) (hw : w_X9_shun_B127 post f_ways f_milky p1 p2 p3 x4) (hP : va_P D vwCl (cw_X9_shun cI h h_ways g_book g_now g_places g_power g_spite g_sights g_sight g_signs g_pad g_offAt g_offWho g_reason g_acts g_enough g_rows g_counts g_pours g_image g_isKept f_ways f_milky) H) (hD : va_D A (cw_X9_shun cI h h_ways g_book g_now g_places g_power g_spite g_sights g_sight g_signs g_pad g_offAt g_offWho g_reason g_acts g_enough g_rows g_counts g_pours g_image g_isKept f_ways f_milky)) (hS : va_S A s.heap H locs) (hl : lv_has ls 7 [(4, .int x4)]), W p l e (headSpec v_X9_shun ({ frames := 2, cells := 0, slots := 0, locals := 48 } : Room)).room s m (([.ref h, .int p1, .int p2, .int p3] : List Value).toArray) below meth c H locs 0 0 (MQ below (q_X9_shun D cI h h_ways g_book g_now g_places g_power g_spite g_sights g_sight g_signs g_pad g_offAt g_offWho g_reason g_acts g_enough g_rows g_counts g_pours g_image g_isKept post f_ways f_milky A) (([.ref h, .int p1, .int p2, .int p3] : List Value).toArray) s 0 0 A) (F0 m 127 ls []) := by
    intro x4 H locs ls hw hP hD hS hl
    unfold w_X9_shun_B127 at hw
    refine lv_iload hx hb dX9_shun_127 (lv_at hl 0 rfl) ?_
    refine lv_goto (tgt := 137) hx hb dX9_shun_129 (by decide) ?_
    exact z_iret hx hb hr hlocks () hw hP hS dX9_shun_137
  have L35 : ∀ (n35 : Nat) (x4 : Int32) (x5 : Int32) (H : Heap) (locs : List Loc) (ls : Array Slot) (hw : w_X9_shun_B35 post f_ways f_milky p1 p2 p3 n35 x4 x5) (hP : va_P D vwCl (cw_X9_shun cI h h_ways g_book g_now g_places g_power g_spite g_sights g_sight g_signs g_pad g_offAt g_offWho g_reason g_acts g_enough g_rows g_counts g_pours g_image g_isKept f_ways f_milky) H) (hD : va_D A (cw_X9_shun cI h h_ways g_book g_now g_places g_power g_spite g_sights g_sight g_signs g_pad g_offAt g_offWho g_reason g_acts g_enough g_rows g_counts g_pours g_image g_isKept f_ways f_milky)) (hS : va_S A s.heap H locs) (hl : lv_has ls 7 [(0, .ref h), (1, .int p1), (2, .int p2), (3, .int p3), (4, .int x4), (5, .int x5)]), W p l e (headSpec v_X9_shun ({ frames := 2, cells := 0, slots := 0, locals := 48 } : Room)).room s m (([.ref h, .int p1, .int p2, .int p3] : List Value).toArray) below meth c H locs 0 0 (MQ below (q_X9_shun D cI h h_ways g_book g_now g_places g_power g_spite g_sights g_sight g_signs g_pad g_offAt g_offWho g_reason g_acts g_enough g_rows g_counts g_pours g_image g_isKept post f_ways f_milky A) (([.ref h, .int p1, .int p2, .int p3] : List Value).toArray) s 0 0 A) (F0 m 35 ls []) := by
    intro n35
    induction n35 with
    | zero => intro x4 x5 H locs ls hw; exact False.elim hw
    | succ n35 ih35 =>
      have J78 : ∀ (x4 : Int32) (x5 : Int32) (s0 : Int32) (H : Heap) (locs : List Loc) (ls : Array Slot) (hw : w_X9_shun_B78 post f_ways f_milky p1 p2 p3 (fun x4 x5 => w_X9_shun_B35 post f_ways f_milky p1 p2 p3 n35 x4 x5) x4 x5 s0) (hP : va_P D vwCl (cw_X9_shun cI h h_ways g_book g_now g_places g_power g_spite g_sights g_sight g_signs g_pad g_offAt g_offWho g_reason g_acts g_enough g_rows g_counts g_pours g_image g_isKept f_ways f_milky) H) (hD : va_D A (cw_X9_shun cI h h_ways g_book g_now g_places g_power g_spite g_sights g_sight g_signs g_pad g_offAt g_offWho g_reason g_acts g_enough g_rows g_counts g_pours g_image g_isKept f_ways f_milky)) (hS : va_S A s.heap H locs) (hl : lv_has ls 7 [(0, .ref h), (1, .int p1), (2, .int p2), (3, .int p3), (4, .int x4), (5, .int x5)]), W p l e (headSpec v_X9_shun ({ frames := 2, cells := 0, slots := 0, locals := 48 } : Room)).room s m (([.ref h, .int p1, .int p2, .int p3] : List Value).toArray) below meth c H locs 0 0 (MQ below (q_X9_shun D cI h h_ways g_book g_now g_places g_power g_spite g_sights g_sight g_signs g_pad g_offAt g_offWho g_reason g_acts g_enough g_rows g_counts g_pours g_image g_isKept post f_ways f_milky A) (([.ref h, .int p1, .int p2, .int p3] : List Value).toArray) s 0 0 A) (F0 m 78 ls [.int s0]) := by
        intro x4 x5 s0 H locs ls hw hP hD hS hl
        unfold w_X9_shun_B78 at hw
        refine lv_istore (lv' := [(6, .int s0), (0, .ref h), (1, .int p1), (2, .int p2), (3, .int p3), (4, .int x4), (5, .int x5)]) hx hb dX9_shun_78 hl (by decide) rfl (fun ls hl => ?_)
        refine lv_iload hx hb dX9_shun_80 (lv_at hl 0 rfl) ?_
        refine lv_if_eq (tgt := 111) hx hb dX9_shun_82 (by decide) (fun c82 => ?_) (fun c82 => ?_)
        · have hw := hw.1 c82
          refine lv_iinc (k := 6) (v := (x5 + 1)) (lv' := [(5, .int (x5 + 1)), (6, .int s0), (0, .ref h), (1, .int p1), (2, .int p2), (3, .int p3), (4, .int x4)]) hx hb dX9_shun_111 hl rfl rfl (by decide) rfl (fun ls hl => ?_)
          refine lv_goto (tgt := 35) hx hb dX9_shun_114 (by decide) ?_
          exact ih35 x4 (x5 + 1) _ _ _ hw hP hD hS (lv_sub hl [2, 3, 4, 5, 6, 0] rfl)
        have hw := hw.2 c82
        refine lv_aload_n hx hb dX9_shun_85 rfl (lv_at hl 1 rfl) ?_
        refine lv_iload_n hx hb dX9_shun_86 rfl (lv_at hl 2 rfl) ?_
        refine lv_iload_n hx hb dX9_shun_87 rfl (lv_at hl 3 rfl) ?_
        refine lv_aload_n hx hb dX9_shun_88 rfl (lv_at hl 1 rfl) ?_
        refine lv_aload_n hx hb dX9_shun_89 rfl (lv_at hl 1 rfl) ?_
        refine va_get (D := D) (ci := 9) (v := .int f_milky) (C := RX9) (T := TX9) (N := 21) hx hb hz hX_X9 hown hK.1 hP 0 rfl rfl 6 (by decide) (hz _ z3_162) (fun _ h9 => h9) rfl dX9_shun_90 ?_
        refine lv_iload hx hb dX9_shun_93 (lv_at hl 6 rfl) ?_
        refine lv_iconst (v := (-1 : Int32)) hx hb dX9_shun_95 (by decide) ?_
        refine lv_ixor hx hb dX9_shun_96 ?_
        refine lv_iand hx hb dX9_shun_97 ?_
        refine z_ri (z_runV (As := [.int (f_milky &&& (x5 ^^^ (-1 : Int32)))]) (rest := [.int p2, .int p1, .ref h]) hF (c_X9_freeCells l D cI cC cZ h h_ways g_book g_now g_places g_power g_spite (.int f_milky) g_sights g_sight g_signs g_pad g_offAt g_offWho g_reason g_acts g_enough g_rows g_counts g_pours g_image g_isKept f_ways (f_milky &&& (x5 ^^^ (-1 : Int32))) _ _ hw) (cwV 1 hz (z_gV z4_118 z4_120 zp_32 z1_10 z4_121) rfl rfl rfl hd_X9_freeCells ⟨Nat.le_of_ble_eq_true rfl, Nat.le_of_ble_eq_true rfl⟩) hK hP hD [0, 1] rfl rfl 0 9 rfl rfl rfl rfl hl.1 rfl (Nat.le_of_ble_eq_true rfl) dX9_shun_98 ⟨Nat.zero_le _, Nat.zero_le _⟩) hP hD hS hA [0, 1] rfl (fun _ => rfl) (fun _ => cw_X9_shun cI h h_ways g_book g_now g_places g_power g_spite g_sights g_sight g_signs g_pad g_offAt g_offWho g_reason g_acts g_enough g_rows g_counts g_pours g_image g_isKept f_ways f_milky) (fun _ => rfl) (fun r98 u98 H locs hw hP hD hS => ?_)
        try dsimp only at hw
        refine z_ri (z_runV (As := [.int p1, .int p2, .int r98]) (rest := []) hF (c_X9_stepsBy l D cI cC cZ h h_ways g_book g_now g_places g_power g_spite (.int f_milky) g_sights g_sight g_signs g_pad g_offAt g_offWho g_reason g_acts g_enough g_rows g_counts g_pours g_image g_isKept f_ways p1 p2 r98 _ _ hw) (cwV 3 hz (z_gV z4_122 z4_124 zp_33 z1_10 z4_125) rfl rfl rfl hd_X9_stepsBy ⟨Nat.le_of_ble_eq_true rfl, Nat.le_of_ble_eq_true rfl⟩) hK hP hD [0, 1] rfl rfl 0 9 rfl rfl rfl rfl hl.1 rfl (Nat.le_of_ble_eq_true rfl) dX9_shun_101 ⟨Nat.zero_le _, Nat.zero_le _⟩) hP hD hS hA [0, 1] rfl (fun _ => rfl) (fun _ => cw_X9_shun cI h h_ways g_book g_now g_places g_power g_spite g_sights g_sight g_signs g_pad g_offAt g_offWho g_reason g_acts g_enough g_rows g_counts g_pours g_image g_isKept f_ways f_milky) (fun _ => rfl) (fun r101 u101 H locs hw hP hD hS => ?_)
        try dsimp only at hw
        refine lv_if_lt (tgt := 111) hx hb dX9_shun_104 (by decide) (fun c104 => ?_) (fun c104 => ?_)
        · have hw := hw.1 c104
          refine lv_iinc (k := 6) (v := (x5 + 1)) (lv' := [(5, .int (x5 + 1)), (6, .int s0), (0, .ref h), (1, .int p1), (2, .int p2), (3, .int p3), (4, .int x4)]) hx hb dX9_shun_111 hl rfl rfl (by decide) rfl (fun ls hl => ?_)
          refine lv_goto (tgt := 35) hx hb dX9_shun_114 (by decide) ?_
          exact ih35 x4 (x5 + 1) _ _ _ hw hP hD hS (lv_sub hl [2, 3, 4, 5, 6, 0] rfl)
        have hw := hw.2 c104
        refine lv_iload hx hb dX9_shun_107 (lv_at hl 6 rfl) ?_
        refine lv_istore (lv' := [(4, .int x5), (6, .int s0), (0, .ref h), (1, .int p1), (2, .int p2), (3, .int p3), (5, .int x5)]) hx hb dX9_shun_109 hl (by decide) rfl (fun ls hl => ?_)
        refine lv_iinc (k := 6) (v := (x5 + 1)) (lv' := [(5, .int (x5 + 1)), (4, .int x5), (6, .int s0), (0, .ref h), (1, .int p1), (2, .int p2), (3, .int p3)]) hx hb dX9_shun_111 hl rfl rfl (by decide) rfl (fun ls hl => ?_)
        refine lv_goto (tgt := 35) hx hb dX9_shun_114 (by decide) ?_
        exact ih35 x5 (x5 + 1) _ _ _ hw hP hD hS (lv_sub hl [3, 4, 5, 6, 1, 0] rfl)
      have J77 : ∀ (x4 : Int32) (x5 : Int32) (H : Heap) (locs : List Loc) (ls : Array Slot) (hw : w_X9_shun_B77 post f_ways f_milky p1 p2 p3 (fun x4 x5 => w_X9_shun_B35 post f_ways f_milky p1 p2 p3 n35 x4 x5) x4 x5) (hP : va_P D vwCl (cw_X9_shun cI h h_ways g_book g_now g_places g_power g_spite g_sights g_sight g_signs g_pad g_offAt g_offWho g_reason g_acts g_enough g_rows g_counts g_pours g_image g_isKept f_ways f_milky) H) (hD : va_D A (cw_X9_shun cI h h_ways g_book g_now g_places g_power g_spite g_sights g_sight g_signs g_pad g_offAt g_offWho g_reason g_acts g_enough g_rows g_counts g_pours g_image g_isKept f_ways f_milky)) (hS : va_S A s.heap H locs) (hl : lv_has ls 7 [(0, .ref h), (1, .int p1), (2, .int p2), (3, .int p3), (4, .int x4), (5, .int x5)]), W p l e (headSpec v_X9_shun ({ frames := 2, cells := 0, slots := 0, locals := 48 } : Room)).room s m (([.ref h, .int p1, .int p2, .int p3] : List Value).toArray) below meth c H locs 0 0 (MQ below (q_X9_shun D cI h h_ways g_book g_now g_places g_power g_spite g_sights g_sight g_signs g_pad g_offAt g_offWho g_reason g_acts g_enough g_rows g_counts g_pours g_image g_isKept post f_ways f_milky A) (([.ref h, .int p1, .int p2, .int p3] : List Value).toArray) s 0 0 A) (F0 m 77 ls []) := by
        intro x4 x5 H locs ls hw hP hD hS hl
        unfold w_X9_shun_B77 at hw
        refine lv_iconst (v := (0 : Int32)) hx hb dX9_shun_77 (by decide) ?_
        exact J78 x4 x5 (0 : Int32) _ _ _ hw hP hD hS (lv_sub hl [0, 1, 2, 3, 4, 5] rfl)
      have J73 : ∀ (x4 : Int32) (x5 : Int32) (H : Heap) (locs : List Loc) (ls : Array Slot) (hw : w_X9_shun_B73 post f_ways f_milky p1 p2 p3 (fun x4 x5 => w_X9_shun_B35 post f_ways f_milky p1 p2 p3 n35 x4 x5) x4 x5) (hP : va_P D vwCl (cw_X9_shun cI h h_ways g_book g_now g_places g_power g_spite g_sights g_sight g_signs g_pad g_offAt g_offWho g_reason g_acts g_enough g_rows g_counts g_pours g_image g_isKept f_ways f_milky) H) (hD : va_D A (cw_X9_shun cI h h_ways g_book g_now g_places g_power g_spite g_sights g_sight g_signs g_pad g_offAt g_offWho g_reason g_acts g_enough g_rows g_counts g_pours g_image g_isKept f_ways f_milky)) (hS : va_S A s.heap H locs) (hl : lv_has ls 7 [(0, .ref h), (1, .int p1), (2, .int p2), (3, .int p3), (4, .int x4), (5, .int x5)]), W p l e (headSpec v_X9_shun ({ frames := 2, cells := 0, slots := 0, locals := 48 } : Room)).room s m (([.ref h, .int p1, .int p2, .int p3] : List Value).toArray) below meth c H locs 0 0 (MQ below (q_X9_shun D cI h h_ways g_book g_now g_places g_power g_spite g_sights g_sight g_signs g_pad g_offAt g_offWho g_reason g_acts g_enough g_rows g_counts g_pours g_image g_isKept post f_ways f_milky A) (([.ref h, .int p1, .int p2, .int p3] : List Value).toArray) s 0 0 A) (F0 m 73 ls []) := by
        intro x4 x5 H locs ls hw hP hD hS hl
        unfold w_X9_shun_B73 at hw
        refine lv_iconst (v := (1 : Int32)) hx hb dX9_shun_73 (by decide) ?_
        refine lv_goto (tgt := 78) hx hb dX9_shun_74 (by decide) ?_
        exact J78 x4 x5 (1 : Int32) _ _ _ hw hP hD hS (lv_sub hl [0, 1, 2, 3, 4, 5] rfl)
      intro x4 x5 H locs ls hw hP hD hS hl
      unfold w_X9_shun_B35 at hw
      refine lv_iload hx hb dX9_shun_35 (lv_at hl 5 rfl) ?_
      refine lv_sipush (v := (4096 : Int32)) hx hb dX9_shun_37 (by decide) ?_
      refine lv_icmp_ge (tgt := 117) hx hb dX9_shun_40 (by decide) (fun c40 => ?_) (fun c40 => ?_)
      · have hw := hw.1 c40
        refine lv_iload hx hb dX9_shun_117 (lv_at hl 4 rfl) ?_
        refine lv_if_lt (tgt := 127) hx hb dX9_shun_119 (by decide) (fun c119 => ?_) (fun c119 => ?_)
        · have hw := hw.1 c119
          exact J127 x4 _ _ _ hw hP hD hS (lv_sub hl [4] rfl)
        have hw := hw.2 c119
        refine lv_iload_n hx hb dX9_shun_122 rfl (lv_at hl 3 rfl) ?_
        refine lv_iconst (v := (1 : Int32)) hx hb dX9_shun_123 (by decide) ?_
        refine lv_icmp_ne (tgt := 132) hx hb dX9_shun_124 (by decide) (fun c124 => ?_) (fun c124 => ?_)
        · have hw := hw.2 c124
          refine lv_iload hx hb dX9_shun_132 (lv_at hl 4 rfl) ?_
          refine z_ri (z_runS (As := [.int x4]) (rest := []) hF (c_X9_bits l D cI cC cZ x4 _ _ hw) (va_cwS 1 hz (z_gS z3_228 z3_229 z1_10 z3_230) rfl rfl rfl hd_X9_bits ⟨Nat.le_of_ble_eq_true rfl, Nat.le_of_ble_eq_true rfl⟩) hK hP hD [] rfl rfl rfl hl.1 rfl (Nat.le_of_ble_eq_true rfl) dX9_shun_134 ⟨Nat.zero_le _, Nat.zero_le _⟩) hP hD hS hA [] rfl (fun _ => rfl) (fun _ => cw_X9_shun cI h h_ways g_book g_now g_places g_power g_spite g_sights g_sight g_signs g_pad g_offAt g_offWho g_reason g_acts g_enough g_rows g_counts g_pours g_image g_isKept f_ways f_milky) (fun _ => rfl) (fun r134 u134 H locs hw hP hD hS => ?_)
          try dsimp only at hw
          exact z_iret hx hb hr hlocks () hw hP hS dX9_shun_137
        have hw := hw.1 c124
        exact J127 x4 _ _ _ hw hP hD hS (lv_sub hl [4] rfl)
      have hw := hw.2 c40
      refine lv_iload hx hb dX9_shun_43 (lv_at hl 5 rfl) ?_
      refine lv_aload_n hx hb dX9_shun_45 rfl (lv_at hl 0 rfl) ?_
      refine va_get (D := D) (ci := 9) (v := .int f_milky) (C := RX9) (T := TX9) (N := 21) hx hb hz hX_X9 hown hK.1 hP 0 rfl rfl 6 (by decide) (hz _ z3_162) (fun _ h9 => h9) rfl dX9_shun_46 ?_
      refine lv_iconst (v := (-1 : Int32)) hx hb dX9_shun_49 (by decide) ?_
      refine lv_ixor hx hb dX9_shun_50 ?_
      refine lv_iand hx hb dX9_shun_51 ?_
      refine lv_if_ne (tgt := 77) hx hb dX9_shun_52 (by decide) (fun c52 => ?_) (fun c52 => ?_)
      · have hw := hw.2 c52
        exact J77 x4 x5 _ _ _ hw hP hD hS (lv_sub hl [0, 1, 2, 3, 4, 5] rfl)
      have hw := hw.1 c52
      refine lv_iload hx hb dX9_shun_55 (lv_at hl 4 rfl) ?_
      refine lv_if_lt (tgt := 73) hx hb dX9_shun_57 (by decide) (fun c57 => ?_) (fun c57 => ?_)
      · have hw := hw.1 c57
        exact J73 x4 x5 _ _ _ hw hP hD hS (lv_sub hl [0, 1, 2, 3, 4, 5] rfl)
      have hw := hw.2 c57
      refine lv_iload hx hb dX9_shun_60 (lv_at hl 5 rfl) ?_
      refine z_ri (z_runS (As := [.int x5]) (rest := []) hF (c_X9_bits l D cI cC cZ x5 _ _ hw) (va_cwS 1 hz (z_gS z3_228 z3_229 z1_10 z3_230) rfl rfl rfl hd_X9_bits ⟨Nat.le_of_ble_eq_true rfl, Nat.le_of_ble_eq_true rfl⟩) hK hP hD [] rfl rfl rfl hl.1 rfl (Nat.le_of_ble_eq_true rfl) dX9_shun_62 ⟨Nat.zero_le _, Nat.zero_le _⟩) hP hD hS hA [] rfl (fun _ => rfl) (fun _ => cw_X9_shun cI h h_ways g_book g_now g_places g_power g_spite g_sights g_sight g_signs g_pad g_offAt g_offWho g_reason g_acts g_enough g_rows g_counts g_pours g_image g_isKept f_ways f_milky) (fun _ => rfl) (fun r62 u62 H locs hw hP hD hS => ?_)
      try dsimp only at hw
      refine lv_iload hx hb dX9_shun_65 (lv_at hl 4 rfl) ?_
      refine z_ri (z_runS (As := [.int x4]) (rest := [.int r62]) hF (c_X9_bits l D cI cC cZ x4 _ _ hw) (va_cwS 1 hz (z_gS z3_228 z3_229 z1_10 z3_230) rfl rfl rfl hd_X9_bits ⟨Nat.le_of_ble_eq_true rfl, Nat.le_of_ble_eq_true rfl⟩) hK hP hD [] rfl rfl rfl hl.1 rfl (Nat.le_of_ble_eq_true rfl) dX9_shun_67 ⟨Nat.zero_le _, Nat.zero_le _⟩) hP hD hS hA [] rfl (fun _ => rfl) (fun _ => cw_X9_shun cI h h_ways g_book g_now g_places g_power g_spite g_sights g_sight g_signs g_pad g_offAt g_offWho g_reason g_acts g_enough g_rows g_counts g_pours g_image g_isKept f_ways f_milky) (fun _ => rfl) (fun r67 u67 H locs hw hP hD hS => ?_)
      try dsimp only at hw
      refine lv_icmp_ge (tgt := 77) hx hb dX9_shun_70 (by decide) (fun c70 => ?_) (fun c70 => ?_)
      · have hw := hw.1 c70
        exact J77 x4 x5 _ _ _ hw hP hD hS (lv_sub hl [0, 1, 2, 3, 4, 5] rfl)
      have hw := hw.2 c70
      exact J73 x4 x5 _ _ _ hw hP hD hS (lv_sub hl [0, 1, 2, 3, 4, 5] rfl)
  unfold w_X9_shun at hw
  refine lv_iload_n hx hb dX9_shun_0 rfl (lv_at hl 1 rfl) ?_
  refine z_ri (z_runS (As := [.int p1]) (rest := []) hF (c_X9_isCell l D cI cC cZ p1 _ _ hw) (va_cwS 1 hz (z_gS z3_239 z4_0 z1_10 z4_1) rfl rfl rfl hd_X9_isCell ⟨Nat.le_of_ble_eq_true rfl, Nat.le_of_ble_eq_true rfl⟩) hK hP hD [] rfl rfl rfl hl.1 rfl (Nat.le_of_ble_eq_true rfl) dX9_shun_1 ⟨Nat.zero_le _, Nat.zero_le _⟩) hP hD hS hA [] rfl (fun _ => rfl) (fun _ => cw_X9_shun cI h h_ways g_book g_now g_places g_power g_spite g_sights g_sight g_signs g_pad g_offAt g_offWho g_reason g_acts g_enough g_rows g_counts g_pours g_image g_isKept f_ways f_milky) (fun _ => rfl) (fun r1 u1 H locs hw hP hD hS => ?_)
  obtain ⟨hn1, hw⟩ := hw
  try dsimp only at hw
  refine lv_if_eq (tgt := 14) hx hb dX9_shun_4 (by decide) (fun c4 => ?_) (fun c4 => ?_)
  · have hw := hw.1 c4
    refine lv_iconst (v := (-1 : Int32)) hx hb dX9_shun_14 (by decide) ?_
    exact z_iret hx hb hr hlocks () hw hP hS dX9_shun_15
  have hw := hw.2 c4
  refine lv_iload_n hx hb dX9_shun_7 rfl (lv_at hl 2 rfl) ?_
  refine z_ri (z_runS (As := [.int p2]) (rest := []) hF (c_X9_isCell l D cI cC cZ p2 _ _ hw) (va_cwS 1 hz (z_gS z3_239 z4_0 z1_10 z4_1) rfl rfl rfl hd_X9_isCell ⟨Nat.le_of_ble_eq_true rfl, Nat.le_of_ble_eq_true rfl⟩) hK hP hD [] rfl rfl rfl hl.1 rfl (Nat.le_of_ble_eq_true rfl) dX9_shun_8 ⟨Nat.zero_le _, Nat.zero_le _⟩) hP hD hS hA [] rfl (fun _ => rfl) (fun _ => cw_X9_shun cI h h_ways g_book g_now g_places g_power g_spite g_sights g_sight g_signs g_pad g_offAt g_offWho g_reason g_acts g_enough g_rows g_counts g_pours g_image g_isKept f_ways f_milky) (fun _ => rfl) (fun r8 u8 H locs hw hP hD hS => ?_)
  obtain ⟨hn8, hw⟩ := hw
  try dsimp only at hw
  refine lv_if_ne (tgt := 16) hx hb dX9_shun_11 (by decide) (fun c11 => ?_) (fun c11 => ?_)
  · have hw := hw.2 c11
    refine lv_iload_n hx hb dX9_shun_16 rfl (lv_at hl 3 rfl) ?_
    refine lv_iconst (v := (0 : Int32)) hx hb dX9_shun_17 (by decide) ?_
    refine lv_iconst (v := (1 : Int32)) hx hb dX9_shun_18 (by decide) ?_
    refine z_ri (z_runS (As := [.int p3, .int (0 : Int32), .int (1 : Int32)]) (rest := []) hF (c_X9_in l D cI cC cZ p3 (0 : Int32) (1 : Int32) _ _ hw) (va_cwS 3 hz (z_gS z3_225 z3_226 z1_10 z3_227) rfl rfl rfl hd_X9_in ⟨Nat.le_of_ble_eq_true rfl, Nat.le_of_ble_eq_true rfl⟩) hK hP hD [] rfl rfl rfl hl.1 rfl (Nat.le_of_ble_eq_true rfl) dX9_shun_19 ⟨Nat.zero_le _, Nat.zero_le _⟩) hP hD hS hA [] rfl (fun _ => rfl) (fun _ => cw_X9_shun cI h h_ways g_book g_now g_places g_power g_spite g_sights g_sight g_signs g_pad g_offAt g_offWho g_reason g_acts g_enough g_rows g_counts g_pours g_image g_isKept f_ways f_milky) (fun _ => rfl) (fun r19 u19 H locs hw hP hD hS => ?_)
    obtain ⟨hn19, hw⟩ := hw
    try dsimp only at hw
    refine lv_if_ne (tgt := 28) hx hb dX9_shun_22 (by decide) (fun c22 => ?_) (fun c22 => ?_)
    · have hw := hw.2 c22
      refine lv_bipush (v := (-6 : Int32)) hx hb dX9_shun_28 (by decide) ?_
      refine lv_istore (lv' := [(4, .int (-6 : Int32)), (0, .ref h), (1, .int p1), (2, .int p2), (3, .int p3)]) hx hb dX9_shun_30 hl (by decide) rfl (fun ls hl => ?_)
      refine lv_iconst (v := (0 : Int32)) hx hb dX9_shun_32 (by decide) ?_
      refine lv_istore (lv' := [(5, .int (0 : Int32)), (4, .int (-6 : Int32)), (0, .ref h), (1, .int p1), (2, .int p2), (3, .int p3)]) hx hb dX9_shun_33 hl (by decide) rfl (fun ls hl => ?_)
      obtain ⟨n35, hw⟩ := hw
      exact L35 n35 (-6 : Int32) (0 : Int32) _ _ _ hw hP hD hS (lv_sub hl [2, 3, 4, 5, 1, 0] rfl)
    have hw := hw.1 c22
    refine lv_bipush (v := (-2 : Int32)) hx hb dX9_shun_25 (by decide) ?_
    exact z_iret hx hb hr hlocks () hw hP hS dX9_shun_27
  have hw := hw.1 c11
  refine lv_iconst (v := (-1 : Int32)) hx hb dX9_shun_14 (by decide) ?_
  exact z_iret hx hb hr hlocks () hw hP hS dX9_shun_15
abbrev cw_X9_layRows (cI : ClassId) (h h_rows : Nat) (g_book g_now g_places g_power g_spite g_ways g_milky g_sights g_sight g_signs g_pad g_offAt g_offWho g_reason g_acts g_enough g_counts g_pours g_image g_isKept : Value) (f_rows : Nat → Int32) : va_W := [(h, .inr (9, [g_book, g_now, g_places, g_power, g_spite, g_ways, g_milky, g_sights, g_sight, g_signs, g_pad, g_offAt, g_offWho, g_reason, g_acts, g_enough, .ref h_rows, g_counts, g_pours, g_image, g_isKept])), (h_rows, .inl (cI, 1722, .inl f_rows))]
abbrev q_X9_layRows (D : va_G) (cI : ClassId) (h h_rows : Nat) (g_book g_now g_places g_power g_spite g_ways g_milky g_sights g_sight g_signs g_pad g_offAt g_offWho g_reason g_acts g_enough g_counts g_pours g_image g_isKept : Value) (post : (Nat → Int32) → Prop) (A : Nat → Prop) : Array Value → State → Outcome → State → Prop := va_Qv (S := (Nat → Int32)) (fun u => post u) (fun u t => va_P D vwCl (cw_X9_layRows cI h h_rows g_book g_now g_places g_power g_spite g_ways g_milky g_sights g_sight g_signs g_pad g_offAt g_offWho g_reason g_acts g_enough g_counts g_pours g_image g_isKept u) t.heap) A
abbrev v_X9_layRows : List Cond := .code yX9_layRows cX9_layRows 5 none :: zB
theorem hd_X9_layRows : yX9_layRows.cls = RX9 ∧ yX9_layRows.cls ≠ "java/lang/invoke/MethodHandle" ∧ yX9_layRows.cls ≠ "java/lang/invoke/VarHandle" ∧ (parseMethodDescriptor yX9_layRows.desc).map (fun d => d.parameters.length) = some 1 := by decide +kernel
set_option maxHeartbeats 4000000 in
set_option maxRecDepth 100000 in
theorem c_X9_layRows (l : Launch) (D : va_G) (cI cC cZ : ClassId) (h h_rows : Nat) (g_book g_now g_places g_power g_spite g_ways g_milky g_sights g_sight g_signs g_pad g_offAt g_offWho g_reason g_acts g_enough g_counts g_pours g_image g_isKept : Value) (f_rows : Nat → Int32) (p1 : Int32) (sz : Nat) (post : (Nat → Int32) → Prop) (hw : w_X9_layRows post f_rows p1) : Met l yX9_layRows v_X9_layRows ({ frames := 0, cells := 0, slots := 0, locals := 0 } : Room) (va_Pc [.ref h, .int p1] (zPre D (zT cI cC cZ) sz (cw_X9_layRows cI h h_rows g_book g_now g_places g_power g_spite g_ways g_milky g_sights g_sight g_signs g_pad g_offAt g_offWho g_reason g_acts g_enough g_counts g_pours g_image g_isKept f_rows))) (q_X9_layRows D cI h h_rows g_book g_now g_places g_power g_spite g_ways g_milky g_sights g_sight g_signs g_pad g_offAt g_offWho g_reason g_acts g_enough g_counts g_pours g_image g_isKept post (va_A (cw_X9_layRows cI h h_rows g_book g_now g_places g_power g_spite g_ways g_milky g_sights g_sight g_signs g_pad g_offAt g_offWho g_reason g_acts g_enough g_counts g_pours g_image g_isKept f_rows) sz)) 0 0 (va_A (cw_X9_layRows cI h h_rows g_book g_now g_places g_power g_spite g_ways g_milky g_sights g_sight g_signs g_pad g_offAt g_offWho g_reason g_acts g_enough g_counts g_pours g_image g_isKept f_rows) sz) := by
  refine Met.ofW (cc := cX9_layRows) (maxL := 5) (ret := none) (by decide) rfl ?_
  intro p e s m args below meth c s₁ B hml hv
  obtain ⟨rfl, hsz, hP, hK, hD0⟩ := hv
  subst hsz
  have hx := B.exec
  have hb := B.bytes
  have hr := B.returns
  have hz : ∀ w ∈ zB, w.before _ s = true := fun w h => atoms_spec (ws := v_X9_layRows) B.pre w (List.mem_cons_of_mem _ h)
  have hown : s.vm.findClass RX9 = some m.cls := findClass_of_methodNamed B.named
  have hlocks := B.notSynchronized
  have hF : CallFix p m c cX9_layRows 5 s (([.ref h, .int p1] : List Value).toArray) zB RX9 := ⟨hx, hb, hml, hown, hz⟩
  have hD := hD0.self (sz := s.heap.size)
  generalize hAe : va_A (cw_X9_layRows cI h h_rows g_book g_now g_places g_power g_spite g_ways g_milky g_sights g_sight g_signs g_pad g_offAt g_offWho g_reason g_acts g_enough g_counts g_pours g_image g_isKept f_rows) s.heap.size = A at hD ⊢
  have hA : ∀ q : Nat, s.heap.size ≤ q → A q := fun q h => by rw [← hAe]; exact Or.inr h
  have hS : va_S A s.heap s.heap [] := va_S.rf
  have hP : va_P D vwCl (cw_X9_layRows cI h h_rows g_book g_now g_places g_power g_spite g_ways g_milky g_sights g_sight g_signs g_pad g_offAt g_offWho g_reason g_acts g_enough g_counts g_pours g_image g_isKept f_rows) s.heap := hP
  have hl := lv_entry ([.ref h, .int p1]) (n := 5) (Nat.le_of_ble_eq_true rfl)
  rw [lg_entry_eq]
  generalize (lg_sl ([.ref h, .int p1]) ++ List.replicate (5 - (lg_sl ([.ref h, .int p1])).length) Slot.unset).toArray = ls at hl ⊢
  have hl : lv_has ls 5 [(0, .ref h), (1, .int p1)] := hl
  have L2 : ∀ (n2 : Nat) (f_rows : Nat → Int32) (x2 : Int32) (H : Heap) (locs : List Loc) (ls : Array Slot) (hw : w_X9_layRows_B2 post p1 n2 f_rows x2) (hP : va_P D vwCl (cw_X9_layRows cI h h_rows g_book g_now g_places g_power g_spite g_ways g_milky g_sights g_sight g_signs g_pad g_offAt g_offWho g_reason g_acts g_enough g_counts g_pours g_image g_isKept f_rows) H) (hD : va_D A (cw_X9_layRows cI h h_rows g_book g_now g_places g_power g_spite g_ways g_milky g_sights g_sight g_signs g_pad g_offAt g_offWho g_reason g_acts g_enough g_counts g_pours g_image g_isKept f_rows)) (hS : va_S A s.heap H locs) (hl : lv_has ls 5 [(0, .ref h), (1, .int p1), (2, .int x2)]), W p l e (headSpec v_X9_layRows ({ frames := 0, cells := 0, slots := 0, locals := 0 } : Room)).room s m (([.ref h, .int p1] : List Value).toArray) below meth c H locs 0 0 (MQ below (q_X9_layRows D cI h h_rows g_book g_now g_places g_power g_spite g_ways g_milky g_sights g_sight g_signs g_pad g_offAt g_offWho g_reason g_acts g_enough g_counts g_pours g_image g_isKept post A) (([.ref h, .int p1] : List Value).toArray) s 0 0 A) (F0 m 2 ls []) := by
    intro n2
    induction n2 with
    | zero => intro f_rows x2 H locs ls hw; exact False.elim hw
    | succ n2 ih2 =>
      have L9 : ∀ (n9 : Nat) (f_rows : Nat → Int32) (x2 : Int32) (x3 : Int32) (H : Heap) (locs : List Loc) (ls : Array Slot) (hw : w_X9_layRows_B9 post p1 (fun f_rows x2 => w_X9_layRows_B2 post p1 n2 f_rows x2) n9 f_rows x2 x3) (hP : va_P D vwCl (cw_X9_layRows cI h h_rows g_book g_now g_places g_power g_spite g_ways g_milky g_sights g_sight g_signs g_pad g_offAt g_offWho g_reason g_acts g_enough g_counts g_pours g_image g_isKept f_rows) H) (hD : va_D A (cw_X9_layRows cI h h_rows g_book g_now g_places g_power g_spite g_ways g_milky g_sights g_sight g_signs g_pad g_offAt g_offWho g_reason g_acts g_enough g_counts g_pours g_image g_isKept f_rows)) (hS : va_S A s.heap H locs) (hl : lv_has ls 5 [(0, .ref h), (1, .int p1), (2, .int x2), (3, .int x3)]), W p l e (headSpec v_X9_layRows ({ frames := 0, cells := 0, slots := 0, locals := 0 } : Room)).room s m (([.ref h, .int p1] : List Value).toArray) below meth c H locs 0 0 (MQ below (q_X9_layRows D cI h h_rows g_book g_now g_places g_power g_spite g_ways g_milky g_sights g_sight g_signs g_pad g_offAt g_offWho g_reason g_acts g_enough g_counts g_pours g_image g_isKept post A) (([.ref h, .int p1] : List Value).toArray) s 0 0 A) (F0 m 9 ls []) := by
        intro n9
        induction n9 with
        | zero => intro f_rows x2 x3 H locs ls hw; exact False.elim hw
        | succ n9 ih9 =>
          have J83 : ∀ (f_rows : Nat → Int32) (x2 : Int32) (x3 : Int32) (x4 : Int32) (H : Heap) (locs : List Loc) (ls : Array Slot) (hw : w_X9_layRows_B83 post p1 (fun f_rows x2 => w_X9_layRows_B2 post p1 n2 f_rows x2) (fun f_rows x2 x3 => w_X9_layRows_B9 post p1 (fun f_rows x2 => w_X9_layRows_B2 post p1 n2 f_rows x2) n9 f_rows x2 x3) f_rows x2 x3 x4) (hP : va_P D vwCl (cw_X9_layRows cI h h_rows g_book g_now g_places g_power g_spite g_ways g_milky g_sights g_sight g_signs g_pad g_offAt g_offWho g_reason g_acts g_enough g_counts g_pours g_image g_isKept f_rows) H) (hD : va_D A (cw_X9_layRows cI h h_rows g_book g_now g_places g_power g_spite g_ways g_milky g_sights g_sight g_signs g_pad g_offAt g_offWho g_reason g_acts g_enough g_counts g_pours g_image g_isKept f_rows)) (hS : va_S A s.heap H locs) (hl : lv_has ls 5 [(0, .ref h), (1, .int p1), (2, .int x2), (3, .int x3), (4, .int x4)]), W p l e (headSpec v_X9_layRows ({ frames := 0, cells := 0, slots := 0, locals := 0 } : Room)).room s m (([.ref h, .int p1] : List Value).toArray) below meth c H locs 0 0 (MQ below (q_X9_layRows D cI h h_rows g_book g_now g_places g_power g_spite g_ways g_milky g_sights g_sight g_signs g_pad g_offAt g_offWho g_reason g_acts g_enough g_counts g_pours g_image g_isKept post A) (([.ref h, .int p1] : List Value).toArray) s 0 0 A) (F0 m 83 ls []) := by
            intro f_rows x2 x3 x4 H locs ls hw hP hD hS hl
            unfold w_X9_layRows_B83 at hw
            refine lv_aload_n hx hb dX9_layRows_83 rfl (lv_at hl 0 rfl) ?_
            refine va_get (D := D) (ci := 9) (v := .ref h_rows) (C := RX9) (T := TX9) (N := 21) hx hb hz hX_X9 hown hK.1 hP 0 rfl rfl 16 (by decide) (hz _ z3_172) (fun _ h9 => h9) rfl dX9_layRows_84 ?_
            refine lv_bipush (v := (41 : Int32)) hx hb dX9_layRows_87 (by decide) ?_
            refine lv_iload_n hx hb dX9_layRows_89 rfl (lv_at hl 2 rfl) ?_
            refine lv_imul hx hb dX9_layRows_90 ?_
            refine lv_iload_n hx hb dX9_layRows_91 rfl (lv_at hl 3 rfl) ?_
            refine lv_iadd hx hb dX9_layRows_92 ?_
            refine lv_iload hx hb dX9_layRows_93 (lv_at hl 4 rfl) ?_
            refine lv_ldc (v := (1000007 : Int32)) hx hb hown (hz _ z4_138) dX9_layRows_95 ?_
            refine lv_irem hx hb dX9_layRows_97 (by decide) ?_
            obtain ⟨hi98, hw⟩ := hw
            refine va_iast hx hb hK.1 hP hD hS 1 0 rfl rfl hi98 dX9_layRows_98 (fun H locs hP hD hS => ?_)
            have hP : va_P D vwCl (cw_X9_layRows cI h h_rows g_book g_now g_places g_power g_spite g_ways g_milky g_sights g_sight g_signs g_pad g_offAt g_offWho g_reason g_acts g_enough g_counts g_pours g_image g_isKept (upd f_rows (((41 : Int32) * x2) + x3).toNatClampNeg (x4 - x4 / (1000007 : Int32) * (1000007 : Int32)))) H := hP
            have hD : va_D A (cw_X9_layRows cI h h_rows g_book g_now g_places g_power g_spite g_ways g_milky g_sights g_sight g_signs g_pad g_offAt g_offWho g_reason g_acts g_enough g_counts g_pours g_image g_isKept (upd f_rows (((41 : Int32) * x2) + x3).toNatClampNeg (x4 - x4 / (1000007 : Int32) * (1000007 : Int32)))) := hD
            refine lv_iinc (k := 3) (v := (x3 + 1)) (lv' := [(3, .int (x3 + 1)), (0, .ref h), (1, .int p1), (2, .int x2), (4, .int x4)]) hx hb dX9_layRows_99 hl rfl rfl (by decide) rfl (fun ls hl => ?_)
            refine lv_goto (tgt := 9) hx hb dX9_layRows_102 (by decide) ?_
            exact ih9 (upd f_rows (((41 : Int32) * x2) + x3).toNatClampNeg (x4 - x4 / (1000007 : Int32) * (1000007 : Int32))) x2 (x3 + 1) _ _ _ hw hP hD hS (lv_sub hl [1, 2, 3, 0] rfl)
          have J81 : ∀ (f_rows : Nat → Int32) (x2 : Int32) (x3 : Int32) (s0 : Int32) (H : Heap) (locs : List Loc) (ls : Array Slot) (hw : w_X9_layRows_B81 post p1 (fun f_rows x2 => w_X9_layRows_B2 post p1 n2 f_rows x2) (fun f_rows x2 x3 => w_X9_layRows_B9 post p1 (fun f_rows x2 => w_X9_layRows_B2 post p1 n2 f_rows x2) n9 f_rows x2 x3) f_rows x2 x3 s0) (hP : va_P D vwCl (cw_X9_layRows cI h h_rows g_book g_now g_places g_power g_spite g_ways g_milky g_sights g_sight g_signs g_pad g_offAt g_offWho g_reason g_acts g_enough g_counts g_pours g_image g_isKept f_rows) H) (hD : va_D A (cw_X9_layRows cI h h_rows g_book g_now g_places g_power g_spite g_ways g_milky g_sights g_sight g_signs g_pad g_offAt g_offWho g_reason g_acts g_enough g_counts g_pours g_image g_isKept f_rows)) (hS : va_S A s.heap H locs) (hl : lv_has ls 5 [(0, .ref h), (1, .int p1), (2, .int x2), (3, .int x3)]), W p l e (headSpec v_X9_layRows ({ frames := 0, cells := 0, slots := 0, locals := 0 } : Room)).room s m (([.ref h, .int p1] : List Value).toArray) below meth c H locs 0 0 (MQ below (q_X9_layRows D cI h h_rows g_book g_now g_places g_power g_spite g_ways g_milky g_sights g_sight g_signs g_pad g_offAt g_offWho g_reason g_acts g_enough g_counts g_pours g_image g_isKept post A) (([.ref h, .int p1] : List Value).toArray) s 0 0 A) (F0 m 81 ls [.int s0]) := by
            intro f_rows x2 x3 s0 H locs ls hw hP hD hS hl
            unfold w_X9_layRows_B81 at hw
            refine lv_istore (lv' := [(4, .int s0), (0, .ref h), (1, .int p1), (2, .int x2), (3, .int x3)]) hx hb dX9_layRows_81 hl (by decide) rfl (fun ls hl => ?_)
            exact J83 f_rows x2 x3 s0 _ _ _ hw hP hD hS (lv_sub hl [1, 2, 3, 4, 0] rfl)
          have J24 : ∀ (f_rows : Nat → Int32) (x2 : Int32) (x3 : Int32) (s0 : Int32) (H : Heap) (locs : List Loc) (ls : Array Slot) (hw : w_X9_layRows_B24 post p1 (fun f_rows x2 => w_X9_layRows_B2 post p1 n2 f_rows x2) (fun f_rows x2 x3 => w_X9_layRows_B9 post p1 (fun f_rows x2 => w_X9_layRows_B2 post p1 n2 f_rows x2) n9 f_rows x2 x3) f_rows x2 x3 s0) (hP : va_P D vwCl (cw_X9_layRows cI h h_rows g_book g_now g_places g_power g_spite g_ways g_milky g_sights g_sight g_signs g_pad g_offAt g_offWho g_reason g_acts g_enough g_counts g_pours g_image g_isKept f_rows) H) (hD : va_D A (cw_X9_layRows cI h h_rows g_book g_now g_places g_power g_spite g_ways g_milky g_sights g_sight g_signs g_pad g_offAt g_offWho g_reason g_acts g_enough g_counts g_pours g_image g_isKept f_rows)) (hS : va_S A s.heap H locs) (hl : lv_has ls 5 [(0, .ref h), (1, .int p1), (2, .int x2), (3, .int x3)]), W p l e (headSpec v_X9_layRows ({ frames := 0, cells := 0, slots := 0, locals := 0 } : Room)).room s m (([.ref h, .int p1] : List Value).toArray) below meth c H locs 0 0 (MQ below (q_X9_layRows D cI h h_rows g_book g_now g_places g_power g_spite g_ways g_milky g_sights g_sight g_signs g_pad g_offAt g_offWho g_reason g_acts g_enough g_counts g_pours g_image g_isKept post A) (([.ref h, .int p1] : List Value).toArray) s 0 0 A) (F0 m 24 ls [.int s0]) := by
            intro f_rows x2 x3 s0 H locs ls hw hP hD hS hl
            unfold w_X9_layRows_B24 at hw
            refine lv_istore (lv' := [(4, .int s0), (0, .ref h), (1, .int p1), (2, .int x2), (3, .int x3)]) hx hb dX9_layRows_24 hl (by decide) rfl (fun ls hl => ?_)
            refine lv_iload_n hx hb dX9_layRows_26 rfl (lv_at hl 3 rfl) ?_
            refine lv_if_le (tgt := 83) hx hb dX9_layRows_27 (by decide) (fun c27 => ?_) (fun c27 => ?_)
            · have hw := hw.1 c27
              exact J83 f_rows x2 x3 s0 _ _ _ hw hP hD hS (lv_sub hl [1, 2, 3, 4, 0] rfl)
            have hw := hw.2 c27
            refine lv_iload_n hx hb dX9_layRows_30 rfl (lv_at hl 4 rfl) ?_
            refine lv_if_le (tgt := 83) hx hb dX9_layRows_31 (by decide) (fun c31 => ?_) (fun c31 => ?_)
            · have hw := hw.1 c31
              exact J83 f_rows x2 x3 s0 _ _ _ hw hP hD hS (lv_sub hl [1, 2, 3, 4, 0] rfl)
            have hw := hw.2 c31
            refine lv_iload_n hx hb dX9_layRows_34 rfl (lv_at hl 3 rfl) ?_
            refine lv_iconst (v := (1 : Int32)) hx hb dX9_layRows_35 (by decide) ?_
            refine lv_icmp_ne (tgt := 52) hx hb dX9_layRows_36 (by decide) (fun c36 => ?_) (fun c36 => ?_)
            · have hw := hw.2 c36
              refine lv_aload_n hx hb dX9_layRows_52 rfl (lv_at hl 1 rfl) ?_
              refine va_get (D := D) (ci := 9) (v := .ref h_rows) (C := RX9) (T := TX9) (N := 21) hx hb hz hX_X9 hown hK.1 hP 0 rfl rfl 16 (by decide) (hz _ z3_172) (fun _ h9 => h9) rfl dX9_layRows_53 ?_
              refine lv_bipush (v := (41 : Int32)) hx hb dX9_layRows_56 (by decide) ?_
              refine lv_iload_n hx hb dX9_layRows_58 rfl (lv_at hl 3 rfl) ?_
              refine lv_iconst (v := (1 : Int32)) hx hb dX9_layRows_59 (by decide) ?_
              refine lv_isub hx hb dX9_layRows_60 ?_
              refine lv_imul hx hb dX9_layRows_61 ?_
              refine lv_iload_n hx hb dX9_layRows_62 rfl (lv_at hl 4 rfl) ?_
              refine lv_iadd hx hb dX9_layRows_63 ?_
              obtain ⟨hi64, hw⟩ := hw
              refine va_iald hx hb hK.1 hP 1 0 rfl rfl hi64 dX9_layRows_64 ?_
              refine lv_aload_n hx hb dX9_layRows_65 rfl (lv_at hl 1 rfl) ?_
              refine va_get (D := D) (ci := 9) (v := .ref h_rows) (C := RX9) (T := TX9) (N := 21) hx hb hz hX_X9 hown hK.1 hP 0 rfl rfl 16 (by decide) (hz _ z3_172) (fun _ h9 => h9) rfl dX9_layRows_66 ?_
              refine lv_bipush (v := (41 : Int32)) hx hb dX9_layRows_69 (by decide) ?_
              refine lv_iload_n hx hb dX9_layRows_71 rfl (lv_at hl 3 rfl) ?_
              refine lv_iconst (v := (2 : Int32)) hx hb dX9_layRows_72 (by decide) ?_
              refine lv_isub hx hb dX9_layRows_73 ?_
              refine lv_imul hx hb dX9_layRows_74 ?_
              refine lv_iload_n hx hb dX9_layRows_75 rfl (lv_at hl 4 rfl) ?_
              refine lv_iadd hx hb dX9_layRows_76 ?_
              refine lv_iconst (v := (1 : Int32)) hx hb dX9_layRows_77 (by decide) ?_
              refine lv_isub hx hb dX9_layRows_78 ?_
              obtain ⟨hi79, hw⟩ := hw
              refine va_iald hx hb hK.1 hP 1 0 rfl rfl hi79 dX9_layRows_79 ?_
              refine lv_iadd hx hb dX9_layRows_80 ?_
              exact J81 f_rows x2 x3 ((f_rows (((41 : Int32) * (x2 - (1 : Int32))) + x3).toNatClampNeg) + (f_rows ((((41 : Int32) * (x2 - (2 : Int32))) + x3) - (1 : Int32)).toNatClampNeg)) _ _ _ hw hP hD hS (lv_sub hl [1, 2, 3, 4] rfl)
            have hw := hw.1 c36
            refine lv_iload_n hx hb dX9_layRows_39 rfl (lv_at hl 4 rfl) ?_
            refine lv_iconst (v := (1 : Int32)) hx hb dX9_layRows_40 (by decide) ?_
            refine lv_icmp_ne (tgt := 48) hx hb dX9_layRows_41 (by decide) (fun c41 => ?_) (fun c41 => ?_)
            · have hw := hw.2 c41
              refine lv_iconst (v := (0 : Int32)) hx hb dX9_layRows_48 (by decide) ?_
              refine lv_goto (tgt := 81) hx hb dX9_layRows_49 (by decide) ?_
              exact J81 f_rows x2 x3 (0 : Int32) _ _ _ hw hP hD hS (lv_sub hl [1, 2, 3, 4] rfl)
            have hw := hw.1 c41
            refine lv_iconst (v := (1 : Int32)) hx hb dX9_layRows_44 (by decide) ?_
            refine lv_goto (tgt := 81) hx hb dX9_layRows_45 (by decide) ?_
            exact J81 f_rows x2 x3 (1 : Int32) _ _ _ hw hP hD hS (lv_sub hl [1, 2, 3, 4] rfl)
          intro f_rows x2 x3 H locs ls hw hP hD hS hl
          unfold w_X9_layRows_B9 at hw
          refine lv_iload_n hx hb dX9_layRows_9 rfl (lv_at hl 3 rfl) ?_
          refine lv_bipush (v := (41 : Int32)) hx hb dX9_layRows_10 (by decide) ?_
          refine lv_icmp_ge (tgt := 105) hx hb dX9_layRows_12 (by decide) (fun c12 => ?_) (fun c12 => ?_)
          · have hw := hw.1 c12
            refine lv_iinc (k := 2) (v := (x2 + 1)) (lv' := [(2, .int (x2 + 1)), (0, .ref h), (1, .int p1), (3, .int x3)]) hx hb dX9_layRows_105 hl rfl rfl (by decide) rfl (fun ls hl => ?_)
            refine lv_goto (tgt := 2) hx hb dX9_layRows_108 (by decide) ?_
            exact ih2 f_rows (x2 + 1) _ _ _ hw hP hD hS (lv_sub hl [1, 2, 0] rfl)
          have hw := hw.2 c12
          refine lv_iload_n hx hb dX9_layRows_15 rfl (lv_at hl 3 rfl) ?_
          refine lv_if_ne (tgt := 23) hx hb dX9_layRows_16 (by decide) (fun c16 => ?_) (fun c16 => ?_)
          · have hw := hw.2 c16
            refine lv_iconst (v := (0 : Int32)) hx hb dX9_layRows_23 (by decide) ?_
            exact J24 f_rows x2 x3 (0 : Int32) _ _ _ hw hP hD hS (lv_sub hl [0, 1, 2, 3] rfl)
          have hw := hw.1 c16
          refine lv_iconst (v := (1 : Int32)) hx hb dX9_layRows_19 (by decide) ?_
          refine lv_goto (tgt := 24) hx hb dX9_layRows_20 (by decide) ?_
          exact J24 f_rows x2 x3 (1 : Int32) _ _ _ hw hP hD hS (lv_sub hl [0, 1, 2, 3] rfl)
      intro f_rows x2 H locs ls hw hP hD hS hl
      unfold w_X9_layRows_B2 at hw
      refine lv_iload_n hx hb dX9_layRows_2 rfl (lv_at hl 2 rfl) ?_
      refine lv_iload_n hx hb dX9_layRows_3 rfl (lv_at hl 1 rfl) ?_
      refine lv_icmp_gt (tgt := 111) hx hb dX9_layRows_4 (by decide) (fun c4 => ?_) (fun c4 => ?_)
      · have hw := hw.1 c4
        exact z_vret hx hb hr hlocks f_rows hw hP hS dX9_layRows_111
      have hw := hw.2 c4
      refine lv_iconst (v := (0 : Int32)) hx hb dX9_layRows_7 (by decide) ?_
      refine lv_istore_n (lv' := [(3, .int (0 : Int32)), (0, .ref h), (1, .int p1), (2, .int x2)]) hx hb dX9_layRows_8 rfl hl (by decide) rfl (fun ls hl => ?_)
      obtain ⟨n9, hw⟩ := hw
      exact L9 n9 f_rows x2 (0 : Int32) _ _ _ hw hP hD hS (lv_sub hl [1, 2, 3, 0] rfl)
  unfold w_X9_layRows at hw
  refine lv_iconst (v := (0 : Int32)) hx hb dX9_layRows_0 (by decide) ?_
  refine lv_istore_n (lv' := [(2, .int (0 : Int32)), (0, .ref h), (1, .int p1)]) hx hb dX9_layRows_1 rfl hl (by decide) rfl (fun ls hl => ?_)
  obtain ⟨n2, hw⟩ := hw
  exact L2 n2 f_rows (0 : Int32) _ _ _ hw hP hD hS (lv_sub hl [1, 2, 0] rfl)
abbrev cw_X9_apart (cI : ClassId) (h h_rows : Nat) (g_book g_now g_places g_power g_spite g_ways g_milky g_sights g_sight g_signs g_pad g_offAt g_offWho g_reason g_acts g_enough g_counts g_pours g_image g_isKept : Value) (f_rows : Nat → Int32) : va_W := [(h, .inr (9, [g_book, g_now, g_places, g_power, g_spite, g_ways, g_milky, g_sights, g_sight, g_signs, g_pad, g_offAt, g_offWho, g_reason, g_acts, g_enough, .ref h_rows, g_counts, g_pours, g_image, g_isKept])), (h_rows, .inl (cI, 1722, .inl f_rows))]
abbrev q_X9_apart (D : va_G) (cI : ClassId) (h h_rows : Nat) (g_book g_now g_places g_power g_spite g_ways g_milky g_sights g_sight g_signs g_pad g_offAt g_offWho g_reason g_acts g_enough g_counts g_pours g_image g_isKept : Value) (post : Int32 → (Nat → Int32) → Prop) (A : Nat → Prop) : Array Value → State → Outcome → State → Prop := va_Qi (S := (Nat → Int32)) (fun r u => post r u) (fun u t => va_P D vwCl (cw_X9_apart cI h h_rows g_book g_now g_places g_power g_spite g_ways g_milky g_sights g_sight g_signs g_pad g_offAt g_offWho g_reason g_acts g_enough g_counts g_pours g_image g_isKept u) t.heap) A
abbrev v_X9_apart : List Cond := .code yX9_apart cX9_apart 3 (some .int) :: zB
theorem hd_X9_apart : yX9_apart.cls = RX9 ∧ yX9_apart.cls ≠ "java/lang/invoke/MethodHandle" ∧ yX9_apart.cls ≠ "java/lang/invoke/VarHandle" ∧ (parseMethodDescriptor yX9_apart.desc).map (fun d => d.parameters.length) = some 2 := by decide +kernel
set_option maxHeartbeats 4000000 in
set_option maxRecDepth 100000 in
theorem c_X9_apart (l : Launch) (D : va_G) (cI cC cZ : ClassId) (h h_rows : Nat) (g_book g_now g_places g_power g_spite g_ways g_milky g_sights g_sight g_signs g_pad g_offAt g_offWho g_reason g_acts g_enough g_counts g_pours g_image g_isKept : Value) (f_rows : Nat → Int32) (p1 : Int32) (p2 : Int32) (sz : Nat) (post : Int32 → (Nat → Int32) → Prop) (hw : w_X9_apart post f_rows p1 p2) : Met l yX9_apart v_X9_apart ({ frames := 1, cells := 0, slots := 0, locals := 24 } : Room) (va_Pc [.ref h, .int p1, .int p2] (zPre D (zT cI cC cZ) sz (cw_X9_apart cI h h_rows g_book g_now g_places g_power g_spite g_ways g_milky g_sights g_sight g_signs g_pad g_offAt g_offWho g_reason g_acts g_enough g_counts g_pours g_image g_isKept f_rows))) (q_X9_apart D cI h h_rows g_book g_now g_places g_power g_spite g_ways g_milky g_sights g_sight g_signs g_pad g_offAt g_offWho g_reason g_acts g_enough g_counts g_pours g_image g_isKept post (va_A (cw_X9_apart cI h h_rows g_book g_now g_places g_power g_spite g_ways g_milky g_sights g_sight g_signs g_pad g_offAt g_offWho g_reason g_acts g_enough g_counts g_pours g_image g_isKept f_rows) sz)) 0 0 (va_A (cw_X9_apart cI h h_rows g_book g_now g_places g_power g_spite g_ways g_milky g_sights g_sight g_signs g_pad g_offAt g_offWho g_reason g_acts g_enough g_counts g_pours g_image g_isKept f_rows) sz) := by
  refine Met.ofW (cc := cX9_apart) (maxL := 3) (ret := (some .int)) (by decide) rfl ?_
  intro p e s m args below meth c s₁ B hml hv
  obtain ⟨rfl, hsz, hP, hK, hD0⟩ := hv
  subst hsz
  have hx := B.exec
  have hb := B.bytes
  have hr := B.returns
  have hz : ∀ w ∈ zB, w.before _ s = true := fun w h => atoms_spec (ws := v_X9_apart) B.pre w (List.mem_cons_of_mem _ h)
  have hown : s.vm.findClass RX9 = some m.cls := findClass_of_methodNamed B.named
  have hlocks := B.notSynchronized
  have hF : CallFix p m c cX9_apart 3 s (([.ref h, .int p1, .int p2] : List Value).toArray) zB RX9 := ⟨hx, hb, hml, hown, hz⟩
  have hD := hD0.self (sz := s.heap.size)
  generalize hAe : va_A (cw_X9_apart cI h h_rows g_book g_now g_places g_power g_spite g_ways g_milky g_sights g_sight g_signs g_pad g_offAt g_offWho g_reason g_acts g_enough g_counts g_pours g_image g_isKept f_rows) s.heap.size = A at hD ⊢
  have hA : ∀ q : Nat, s.heap.size ≤ q → A q := fun q h => by rw [← hAe]; exact Or.inr h
  have hS : va_S A s.heap s.heap [] := va_S.rf
  have hP : va_P D vwCl (cw_X9_apart cI h h_rows g_book g_now g_places g_power g_spite g_ways g_milky g_sights g_sight g_signs g_pad g_offAt g_offWho g_reason g_acts g_enough g_counts g_pours g_image g_isKept f_rows) s.heap := hP
  have hl := lv_entry ([.ref h, .int p1, .int p2]) (n := 3) (Nat.le_of_ble_eq_true rfl)
  rw [lg_entry_eq]
  generalize (lg_sl ([.ref h, .int p1, .int p2]) ++ List.replicate (3 - (lg_sl ([.ref h, .int p1, .int p2])).length) Slot.unset).toArray = ls at hl ⊢
  have hl : lv_has ls 3 [(0, .ref h), (1, .int p1), (2, .int p2)] := hl
  unfold w_X9_apart at hw
  refine lv_iload_n hx hb dX9_apart_0 rfl (lv_at hl 1 rfl) ?_
  refine lv_iconst (v := (0 : Int32)) hx hb dX9_apart_1 (by decide) ?_
  refine lv_bipush (v := (40 : Int32)) hx hb dX9_apart_2 (by decide) ?_
  refine z_ri (z_runS (As := [.int p1, .int (0 : Int32), .int (40 : Int32)]) (rest := []) hF (c_X9_in l D cI cC cZ p1 (0 : Int32) (40 : Int32) _ _ hw) (va_cwS 3 hz (z_gS z3_225 z3_226 z1_10 z3_227) rfl rfl rfl hd_X9_in ⟨Nat.le_of_ble_eq_true rfl, Nat.le_of_ble_eq_true rfl⟩) hK hP hD [] rfl rfl rfl hl.1 rfl (Nat.le_of_ble_eq_true rfl) dX9_apart_4 ⟨Nat.zero_le _, Nat.zero_le _⟩) hP hD hS hA [] rfl (fun _ => rfl) (fun _ => cw_X9_apart cI h h_rows g_book g_now g_places g_power g_spite g_ways g_milky g_sights g_sight g_signs g_pad g_offAt g_offWho g_reason g_acts g_enough g_counts g_pours g_image g_isKept f_rows) (fun _ => rfl) (fun r4 u4 H locs hw hP hD hS => ?_)
  obtain ⟨hn4, hw⟩ := hw
  try dsimp only at hw
  refine lv_if_eq (tgt := 19) hx hb dX9_apart_7 (by decide) (fun c7 => ?_) (fun c7 => ?_)
  · have hw := hw.1 c7
    refine lv_bipush (v := (-2 : Int32)) hx hb dX9_apart_19 (by decide) ?_
    exact z_iret hx hb hr hlocks f_rows hw hP hS dX9_apart_21
  have hw := hw.2 c7
  refine lv_iload_n hx hb dX9_apart_10 rfl (lv_at hl 2 rfl) ?_
  refine lv_iconst (v := (0 : Int32)) hx hb dX9_apart_11 (by decide) ?_
  refine lv_iload_n hx hb dX9_apart_12 rfl (lv_at hl 1 rfl) ?_
  refine z_ri (z_runS (As := [.int p2, .int (0 : Int32), .int p1]) (rest := []) hF (c_X9_in l D cI cC cZ p2 (0 : Int32) p1 _ _ hw) (va_cwS 3 hz (z_gS z3_225 z3_226 z1_10 z3_227) rfl rfl rfl hd_X9_in ⟨Nat.le_of_ble_eq_true rfl, Nat.le_of_ble_eq_true rfl⟩) hK hP hD [] rfl rfl rfl hl.1 rfl (Nat.le_of_ble_eq_true rfl) dX9_apart_13 ⟨Nat.zero_le _, Nat.zero_le _⟩) hP hD hS hA [] rfl (fun _ => rfl) (fun _ => cw_X9_apart cI h h_rows g_book g_now g_places g_power g_spite g_ways g_milky g_sights g_sight g_signs g_pad g_offAt g_offWho g_reason g_acts g_enough g_counts g_pours g_image g_isKept f_rows) (fun _ => rfl) (fun r13 u13 H locs hw hP hD hS => ?_)
  obtain ⟨hn13, hw⟩ := hw
  try dsimp only at hw
  refine lv_if_ne (tgt := 22) hx hb dX9_apart_16 (by decide) (fun c16 => ?_) (fun c16 => ?_)
  · have hw := hw.2 c16
    refine lv_aload_n hx hb dX9_apart_22 rfl (lv_at hl 0 rfl) ?_
    refine lv_iload_n hx hb dX9_apart_23 rfl (lv_at hl 1 rfl) ?_
    refine z_rv (z_runV (As := [.int p1]) (rest := []) hF (c_X9_layRows l D cI cC cZ h h_rows g_book g_now g_places g_power g_spite g_ways g_milky g_sights g_sight g_signs g_pad g_offAt g_offWho g_reason g_acts g_enough g_counts g_pours g_image g_isKept f_rows p1 _ _ hw) (cwV 1 hz (z_gV z4_134 z4_136 zp_34 z1_10 z4_137) rfl rfl rfl hd_X9_layRows ⟨Nat.le_of_ble_eq_true rfl, Nat.le_of_ble_eq_true rfl⟩) hK hP hD [0, 1] rfl rfl 0 9 rfl rfl rfl rfl hl.1 rfl (Nat.le_of_ble_eq_true rfl) dX9_apart_24 ⟨Nat.zero_le _, Nat.zero_le _⟩) hP hD hS hA [0, 1] rfl (fun _ => rfl) (fun u => cw_X9_apart cI h h_rows g_book g_now g_places g_power g_spite g_ways g_milky g_sights g_sight g_signs g_pad g_offAt g_offWho g_reason g_acts g_enough g_counts g_pours g_image g_isKept u) (fun _ => rfl) (fun u24_0 H locs hw hP hD hS => ?_)
    try dsimp only at hw
    have hP : va_P D vwCl (cw_X9_apart cI h h_rows g_book g_now g_places g_power g_spite g_ways g_milky g_sights g_sight g_signs g_pad g_offAt g_offWho g_reason g_acts g_enough g_counts g_pours g_image g_isKept u24_0) H := hP
    have hD : va_D A (cw_X9_apart cI h h_rows g_book g_now g_places g_power g_spite g_ways g_milky g_sights g_sight g_signs g_pad g_offAt g_offWho g_reason g_acts g_enough g_counts g_pours g_image g_isKept u24_0) := hD
    refine lv_aload_n hx hb dX9_apart_27 rfl (lv_at hl 0 rfl) ?_
    refine va_get (D := D) (ci := 9) (v := .ref h_rows) (C := RX9) (T := TX9) (N := 21) hx hb hz hX_X9 hown hK.1 hP 0 rfl rfl 16 (by decide) (hz _ z3_172) (fun _ h9 => h9) rfl dX9_apart_28 ?_
    refine lv_bipush (v := (41 : Int32)) hx hb dX9_apart_31 (by decide) ?_
    refine lv_iload_n hx hb dX9_apart_33 rfl (lv_at hl 1 rfl) ?_
    refine lv_imul hx hb dX9_apart_34 ?_
    refine lv_iload_n hx hb dX9_apart_35 rfl (lv_at hl 2 rfl) ?_
    refine lv_iadd hx hb dX9_apart_36 ?_
    obtain ⟨hi37, hw⟩ := hw
    refine va_iald hx hb hK.1 hP 1 0 rfl rfl hi37 dX9_apart_37 ?_
    exact z_iret hx hb hr hlocks u24_0 hw hP hS dX9_apart_38
  have hw := hw.1 c16
  refine lv_bipush (v := (-2 : Int32)) hx hb dX9_apart_19 (by decide) ?_
  exact z_iret hx hb hr hlocks f_rows hw hP hS dX9_apart_21
abbrev cw_X9_row (cI : ClassId) (h h_rows : Nat) (g_book g_now g_places g_power g_spite g_ways g_milky g_sights g_sight g_signs g_pad g_offAt g_offWho g_reason g_acts g_enough g_counts g_pours g_image g_isKept : Value) (f_rows : Nat → Int32) : va_W := [(h, .inr (9, [g_book, g_now, g_places, g_power, g_spite, g_ways, g_milky, g_sights, g_sight, g_signs, g_pad, g_offAt, g_offWho, g_reason, g_acts, g_enough, .ref h_rows, g_counts, g_pours, g_image, g_isKept])), (h_rows, .inl (cI, 1722, .inl f_rows))]
abbrev q_X9_row (D : va_G) (cI : ClassId) (h h_rows : Nat) (g_book g_now g_places g_power g_spite g_ways g_milky g_sights g_sight g_signs g_pad g_offAt g_offWho g_reason g_acts g_enough g_counts g_pours g_image g_isKept : Value) (post : Int32 → (Nat → Int32) → Prop) (A : Nat → Prop) : Array Value → State → Outcome → State → Prop := va_Qi (S := (Nat → Int32)) (fun r u => post r u) (fun u t => va_P D vwCl (cw_X9_row cI h h_rows g_book g_now g_places g_power g_spite g_ways g_milky g_sights g_sight g_signs g_pad g_offAt g_offWho g_reason g_acts g_enough g_counts g_pours g_image g_isKept u) t.heap) A
abbrev v_X9_row : List Cond := .code yX9_row cX9_row 9 (some .int) :: zB
theorem hd_X9_row : yX9_row.cls = RX9 ∧ yX9_row.cls ≠ "java/lang/invoke/MethodHandle" ∧ yX9_row.cls ≠ "java/lang/invoke/VarHandle" ∧ (parseMethodDescriptor yX9_row.desc).map (fun d => d.parameters.length) = some 3 := by decide +kernel
set_option maxHeartbeats 4000000 in
set_option maxRecDepth 100000 in
theorem c_X9_row (l : Launch) (D : va_G) (cI cC cZ : ClassId) (h h_rows : Nat) (g_book g_now g_places g_power g_spite g_ways g_milky g_sights g_sight g_signs g_pad g_offAt g_offWho g_reason g_acts g_enough g_counts g_pours g_image g_isKept : Value) (f_rows : Nat → Int32) (p1 : Int32) (p2 : Int32) (p3 : Int32) (sz : Nat) (post : Int32 → (Nat → Int32) → Prop) (hw : w_X9_row post f_rows p1 p2 p3) : Met l yX9_row v_X9_row ({ frames := 1, cells := 0, slots := 0, locals := 24 } : Room) (va_Pc [.ref h, .int p1, .int p2, .int p3] (zPre D (zT cI cC cZ) sz (cw_X9_row cI h h_rows g_book g_now g_places g_power g_spite g_ways g_milky g_sights g_sight g_signs g_pad g_offAt g_offWho g_reason g_acts g_enough g_counts g_pours g_image g_isKept f_rows))) (q_X9_row D cI h h_rows g_book g_now g_places g_power g_spite g_ways g_milky g_sights g_sight g_signs g_pad g_offAt g_offWho g_reason g_acts g_enough g_counts g_pours g_image g_isKept post (va_A (cw_X9_row cI h h_rows g_book g_now g_places g_power g_spite g_ways g_milky g_sights g_sight g_signs g_pad g_offAt g_offWho g_reason g_acts g_enough g_counts g_pours g_image g_isKept f_rows) sz)) 0 0 (va_A (cw_X9_row cI h h_rows g_book g_now g_places g_power g_spite g_ways g_milky g_sights g_sight g_signs g_pad g_offAt g_offWho g_reason g_acts g_enough g_counts g_pours g_image g_isKept f_rows) sz) := by
  refine Met.ofW (cc := cX9_row) (maxL := 9) (ret := (some .int)) (by decide) rfl ?_
  intro p e s m args below meth c s₁ B hml hv
  obtain ⟨rfl, hsz, hP, hK, hD0⟩ := hv
  subst hsz
  have hx := B.exec
  have hb := B.bytes
  have hr := B.returns
  have hz : ∀ w ∈ zB, w.before _ s = true := fun w h => atoms_spec (ws := v_X9_row) B.pre w (List.mem_cons_of_mem _ h)
  have hown : s.vm.findClass RX9 = some m.cls := findClass_of_methodNamed B.named
  have hlocks := B.notSynchronized
  have hF : CallFix p m c cX9_row 9 s (([.ref h, .int p1, .int p2, .int p3] : List Value).toArray) zB RX9 := ⟨hx, hb, hml, hown, hz⟩
  have hD := hD0.self (sz := s.heap.size)
  generalize hAe : va_A (cw_X9_row cI h h_rows g_book g_now g_places g_power g_spite g_ways g_milky g_sights g_sight g_signs g_pad g_offAt g_offWho g_reason g_acts g_enough g_counts g_pours g_image g_isKept f_rows) s.heap.size = A at hD ⊢
  have hA : ∀ q : Nat, s.heap.size ≤ q → A q := fun q h => by rw [← hAe]; exact Or.inr h
  have hS : va_S A s.heap s.heap [] := va_S.rf
  have hP : va_P D vwCl (cw_X9_row cI h h_rows g_book g_now g_places g_power g_spite g_ways g_milky g_sights g_sight g_signs g_pad g_offAt g_offWho g_reason g_acts g_enough g_counts g_pours g_image g_isKept f_rows) s.heap := hP
  have hl := lv_entry ([.ref h, .int p1, .int p2, .int p3]) (n := 9) (Nat.le_of_ble_eq_true rfl)
  rw [lg_entry_eq]
  generalize (lg_sl ([.ref h, .int p1, .int p2, .int p3]) ++ List.replicate (9 - (lg_sl ([.ref h, .int p1, .int p2, .int p3])).length) Slot.unset).toArray = ls at hl ⊢
  have hl : lv_has ls 9 [(0, .ref h), (1, .int p1), (2, .int p2), (3, .int p3)] := hl
  have L67 : ∀ (n67 : Nat) (f_rows : Nat → Int32) (x4 : Int32) (x5 : Int32) (x6 : Int32) (x7 : Int32) (H : Heap) (locs : List Loc) (ls : Array Slot) (hw : w_X9_row_B67 post p1 p2 p3 n67 f_rows x4 x5 x6 x7) (hP : va_P D vwCl (cw_X9_row cI h h_rows g_book g_now g_places g_power g_spite g_ways g_milky g_sights g_sight g_signs g_pad g_offAt g_offWho g_reason g_acts g_enough g_counts g_pours g_image g_isKept f_rows) H) (hD : va_D A (cw_X9_row cI h h_rows g_book g_now g_places g_power g_spite g_ways g_milky g_sights g_sight g_signs g_pad g_offAt g_offWho g_reason g_acts g_enough g_counts g_pours g_image g_isKept f_rows)) (hS : va_S A s.heap H locs) (hl : lv_has ls 9 [(0, .ref h), (4, .int x4), (5, .int x5), (6, .int x6), (7, .int x7)]), W p l e (headSpec v_X9_row ({ frames := 1, cells := 0, slots := 0, locals := 24 } : Room)).room s m (([.ref h, .int p1, .int p2, .int p3] : List Value).toArray) below meth c H locs 0 0 (MQ below (q_X9_row D cI h h_rows g_book g_now g_places g_power g_spite g_ways g_milky g_sights g_sight g_signs g_pad g_offAt g_offWho g_reason g_acts g_enough g_counts g_pours g_image g_isKept post A) (([.ref h, .int p1, .int p2, .int p3] : List Value).toArray) s 0 0 A) (F0 m 67 ls []) := by
    intro n67
    induction n67 with
    | zero => intro f_rows x4 x5 x6 x7 H locs ls hw; exact False.elim hw
    | succ n67 ih67 =>
      intro f_rows x4 x5 x6 x7 H locs ls hw hP hD hS hl
      unfold w_X9_row_B67 at hw
      refine lv_iload hx hb dX9_row_67 (lv_at hl 4 rfl) ?_
      refine lv_if_le (tgt := 126) hx hb dX9_row_69 (by decide) (fun c69 => ?_) (fun c69 => ?_)
      · have hw := hw.1 c69
        refine lv_iload hx hb dX9_row_126 (lv_at hl 1 rfl) ?_
        exact z_iret hx hb hr hlocks f_rows hw hP hS dX9_row_128
      have hw := hw.2 c69
      refine lv_aload_n hx hb dX9_row_72 rfl (lv_at hl 0 rfl) ?_
      refine va_get (D := D) (ci := 9) (v := .ref h_rows) (C := RX9) (T := TX9) (N := 21) hx hb hz hX_X9 hown hK.1 hP 0 rfl rfl 16 (by decide) (hz _ z3_172) (fun _ h9 => h9) rfl dX9_row_73 ?_
      refine lv_bipush (v := (41 : Int32)) hx hb dX9_row_76 (by decide) ?_
      refine lv_iload hx hb dX9_row_78 (lv_at hl 4 rfl) ?_
      refine lv_iconst (v := (1 : Int32)) hx hb dX9_row_80 (by decide) ?_
      refine lv_isub hx hb dX9_row_81 ?_
      refine lv_imul hx hb dX9_row_82 ?_
      refine lv_iload hx hb dX9_row_83 (lv_at hl 3 rfl) ?_
      refine lv_iadd hx hb dX9_row_85 ?_
      obtain ⟨hi86, hw⟩ := hw
      refine va_iald hx hb hK.1 hP 1 0 rfl rfl hi86 dX9_row_86 ?_
      refine lv_topi (fun y87 ey87 => ?_)
      have hw := hw y87 ey87
      refine lv_istore (lv' := [(8, .int y87), (0, .ref h), (4, .int x4), (5, .int x5), (6, .int x6), (7, .int x7)]) hx hb dX9_row_87 hl (by decide) rfl (fun ls hl => ?_)
      refine lv_iload hx hb dX9_row_89 (lv_at hl 3 rfl) ?_
      refine lv_iload hx hb dX9_row_91 (lv_at hl 0 rfl) ?_
      refine lv_icmp_lt (tgt := 120) hx hb dX9_row_93 (by decide) (fun c93 => ?_) (fun c93 => ?_)
      · have hw := hw.1 c93
        refine lv_iinc (k := 5) (v := (x7 + (-1))) (lv' := [(7, .int (x7 + (-1))), (8, .int y87), (0, .ref h), (4, .int x4), (5, .int x5), (6, .int x6)]) hx hb dX9_row_120 hl rfl rfl (by decide) rfl (fun ls hl => ?_)
        refine lv_goto (tgt := 67) hx hb dX9_row_123 (by decide) ?_
        exact ih67 f_rows x4 x5 x6 (x7 + (-1)) _ _ _ hw hP hD hS (lv_sub hl [2, 3, 4, 5, 0] rfl)
      have hw := hw.2 c93
      refine lv_iload hx hb dX9_row_96 (lv_at hl 3 rfl) ?_
      refine lv_iload hx hb dX9_row_98 (lv_at hl 0 rfl) ?_
      refine lv_isub hx hb dX9_row_100 ?_
      refine lv_istore (lv' := [(5, .int (x5 - y87)), (8, .int y87), (0, .ref h), (4, .int x4), (6, .int x6), (7, .int x7)]) hx hb dX9_row_101 hl (by decide) rfl (fun ls hl => ?_)
      refine lv_iinc (k := 4) (v := (x6 + (-1))) (lv' := [(6, .int (x6 + (-1))), (5, .int (x5 - y87)), (8, .int y87), (0, .ref h), (4, .int x4), (7, .int x7)]) hx hb dX9_row_103 hl rfl rfl (by decide) rfl (fun ls hl => ?_)
      refine lv_iload hx hb dX9_row_106 (lv_at hl 4 rfl) ?_
      refine lv_iconst (v := (1 : Int32)) hx hb dX9_row_108 (by decide) ?_
      refine lv_iload hx hb dX9_row_109 (lv_at hl 5 rfl) ?_
      refine lv_iconst (v := (1 : Int32)) hx hb dX9_row_111 (by decide) ?_
      refine lv_isub hx hb dX9_row_112 ?_
      refine lv_ishl hx hb dX9_row_113 ?_
      refine lv_ior hx hb dX9_row_114 ?_
      refine lv_topi (fun y115 ey115 => ?_)
      have hw := hw y115 ey115
      refine lv_istore (lv' := [(4, .int y115), (6, .int (x6 + (-1))), (5, .int (x5 - y87)), (8, .int y87), (0, .ref h), (7, .int x7)]) hx hb dX9_row_115 hl (by decide) rfl (fun ls hl => ?_)
      refine lv_iinc (k := 5) (v := (x7 + (-1))) (lv' := [(7, .int (x7 + (-1))), (4, .int y115), (6, .int (x6 + (-1))), (5, .int (x5 - y87)), (8, .int y87), (0, .ref h)]) hx hb dX9_row_117 hl rfl rfl (by decide) rfl (fun ls hl => ?_)
      refine lv_iinc (k := 0) (v := ((x7 + (-1)) + (-1))) (lv' := [(7, .int ((x7 + (-1)) + (-1))), (4, .int y115), (6, .int (x6 + (-1))), (5, .int (x5 - y87)), (8, .int y87), (0, .ref h)]) hx hb dX9_row_120 hl rfl rfl (by decide) rfl (fun ls hl => ?_)
      refine lv_goto (tgt := 67) hx hb dX9_row_123 (by decide) ?_
      exact ih67 f_rows y115 (x5 - y87) (x6 + (-1)) ((x7 + (-1)) + (-1)) _ _ _ hw hP hD hS (lv_sub hl [5, 1, 3, 2, 0] rfl)
  unfold w_X9_row at hw
  refine lv_iload_n hx hb dX9_row_0 rfl (lv_at hl 1 rfl) ?_
  refine lv_iconst (v := (0 : Int32)) hx hb dX9_row_1 (by decide) ?_
  refine lv_bipush (v := (25 : Int32)) hx hb dX9_row_2 (by decide) ?_
  refine z_ri (z_runS (As := [.int p1, .int (0 : Int32), .int (25 : Int32)]) (rest := []) hF (c_X9_in l D cI cC cZ p1 (0 : Int32) (25 : Int32) _ _ hw) (va_cwS 3 hz (z_gS z3_225 z3_226 z1_10 z3_227) rfl rfl rfl hd_X9_in ⟨Nat.le_of_ble_eq_true rfl, Nat.le_of_ble_eq_true rfl⟩) hK hP hD [] rfl rfl rfl hl.1 rfl (Nat.le_of_ble_eq_true rfl) dX9_row_4 ⟨Nat.zero_le _, Nat.zero_le _⟩) hP hD hS hA [] rfl (fun _ => rfl) (fun _ => cw_X9_row cI h h_rows g_book g_now g_places g_power g_spite g_ways g_milky g_sights g_sight g_signs g_pad g_offAt g_offWho g_reason g_acts g_enough g_counts g_pours g_image g_isKept f_rows) (fun _ => rfl) (fun r4 u4 H locs hw hP hD hS => ?_)
  obtain ⟨hn4, hw⟩ := hw
  try dsimp only at hw
  refine lv_if_eq (tgt := 29) hx hb dX9_row_7 (by decide) (fun c7 => ?_) (fun c7 => ?_)
  · have hw := hw.1 c7
    refine lv_bipush (v := (-2 : Int32)) hx hb dX9_row_29 (by decide) ?_
    exact z_iret hx hb hr hlocks f_rows hw hP hS dX9_row_31
  have hw := hw.2 c7
  refine lv_iload_n hx hb dX9_row_10 rfl (lv_at hl 2 rfl) ?_
  refine lv_iconst (v := (0 : Int32)) hx hb dX9_row_11 (by decide) ?_
  refine lv_iload_n hx hb dX9_row_12 rfl (lv_at hl 1 rfl) ?_
  refine z_ri (z_runS (As := [.int p2, .int (0 : Int32), .int p1]) (rest := []) hF (c_X9_in l D cI cC cZ p2 (0 : Int32) p1 _ _ hw) (va_cwS 3 hz (z_gS z3_225 z3_226 z1_10 z3_227) rfl rfl rfl hd_X9_in ⟨Nat.le_of_ble_eq_true rfl, Nat.le_of_ble_eq_true rfl⟩) hK hP hD [] rfl rfl rfl hl.1 rfl (Nat.le_of_ble_eq_true rfl) dX9_row_13 ⟨Nat.zero_le _, Nat.zero_le _⟩) hP hD hS hA [] rfl (fun _ => rfl) (fun _ => cw_X9_row cI h h_rows g_book g_now g_places g_power g_spite g_ways g_milky g_sights g_sight g_signs g_pad g_offAt g_offWho g_reason g_acts g_enough g_counts g_pours g_image g_isKept f_rows) (fun _ => rfl) (fun r13 u13 H locs hw hP hD hS => ?_)
  obtain ⟨hn13, hw⟩ := hw
  try dsimp only at hw
  refine lv_if_eq (tgt := 29) hx hb dX9_row_16 (by decide) (fun c16 => ?_) (fun c16 => ?_)
  · have hw := hw.1 c16
    refine lv_bipush (v := (-2 : Int32)) hx hb dX9_row_29 (by decide) ?_
    exact z_iret hx hb hr hlocks f_rows hw hP hS dX9_row_31
  have hw := hw.2 c16
  refine lv_iload_n hx hb dX9_row_19 rfl (lv_at hl 3 rfl) ?_
  refine lv_iconst (v := (0 : Int32)) hx hb dX9_row_20 (by decide) ?_
  refine lv_ldc (v := (99999 : Int32)) hx hb hown (hz _ z4_143) dX9_row_21 ?_
  refine z_ri (z_runS (As := [.int p3, .int (0 : Int32), .int (99999 : Int32)]) (rest := []) hF (c_X9_in l D cI cC cZ p3 (0 : Int32) (99999 : Int32) _ _ hw) (va_cwS 3 hz (z_gS z3_225 z3_226 z1_10 z3_227) rfl rfl rfl hd_X9_in ⟨Nat.le_of_ble_eq_true rfl, Nat.le_of_ble_eq_true rfl⟩) hK hP hD [] rfl rfl rfl hl.1 rfl (Nat.le_of_ble_eq_true rfl) dX9_row_23 ⟨Nat.zero_le _, Nat.zero_le _⟩) hP hD hS hA [] rfl (fun _ => rfl) (fun _ => cw_X9_row cI h h_rows g_book g_now g_places g_power g_spite g_ways g_milky g_sights g_sight g_signs g_pad g_offAt g_offWho g_reason g_acts g_enough g_counts g_pours g_image g_isKept f_rows) (fun _ => rfl) (fun r23 u23 H locs hw hP hD hS => ?_)
  obtain ⟨hn23, hw⟩ := hw
  try dsimp only at hw
  refine lv_if_ne (tgt := 32) hx hb dX9_row_26 (by decide) (fun c26 => ?_) (fun c26 => ?_)
  · have hw := hw.2 c26
    refine lv_aload_n hx hb dX9_row_32 rfl (lv_at hl 0 rfl) ?_
    refine lv_iload_n hx hb dX9_row_33 rfl (lv_at hl 1 rfl) ?_
    refine z_rv (z_runV (As := [.int p1]) (rest := []) hF (c_X9_layRows l D cI cC cZ h h_rows g_book g_now g_places g_power g_spite g_ways g_milky g_sights g_sight g_signs g_pad g_offAt g_offWho g_reason g_acts g_enough g_counts g_pours g_image g_isKept f_rows p1 _ _ hw) (cwV 1 hz (z_gV z4_134 z4_136 zp_34 z1_10 z4_137) rfl rfl rfl hd_X9_layRows ⟨Nat.le_of_ble_eq_true rfl, Nat.le_of_ble_eq_true rfl⟩) hK hP hD [0, 1] rfl rfl 0 9 rfl rfl rfl rfl hl.1 rfl (Nat.le_of_ble_eq_true rfl) dX9_row_34 ⟨Nat.zero_le _, Nat.zero_le _⟩) hP hD hS hA [0, 1] rfl (fun _ => rfl) (fun u => cw_X9_row cI h h_rows g_book g_now g_places g_power g_spite g_ways g_milky g_sights g_sight g_signs g_pad g_offAt g_offWho g_reason g_acts g_enough g_counts g_pours g_image g_isKept u) (fun _ => rfl) (fun u34_0 H locs hw hP hD hS => ?_)
    try dsimp only at hw
    have hP : va_P D vwCl (cw_X9_row cI h h_rows g_book g_now g_places g_power g_spite g_ways g_milky g_sights g_sight g_signs g_pad g_offAt g_offWho g_reason g_acts g_enough g_counts g_pours g_image g_isKept u34_0) H := hP
    have hD : va_D A (cw_X9_row cI h h_rows g_book g_now g_places g_power g_spite g_ways g_milky g_sights g_sight g_signs g_pad g_offAt g_offWho g_reason g_acts g_enough g_counts g_pours g_image g_isKept u34_0) := hD
    refine lv_iload_n hx hb dX9_row_37 rfl (lv_at hl 3 rfl) ?_
    refine lv_aload_n hx hb dX9_row_38 rfl (lv_at hl 0 rfl) ?_
    refine va_get (D := D) (ci := 9) (v := .ref h_rows) (C := RX9) (T := TX9) (N := 21) hx hb hz hX_X9 hown hK.1 hP 0 rfl rfl 16 (by decide) (hz _ z3_172) (fun _ h9 => h9) rfl dX9_row_39 ?_
    refine lv_bipush (v := (41 : Int32)) hx hb dX9_row_42 (by decide) ?_
    refine lv_iload_n hx hb dX9_row_44 rfl (lv_at hl 1 rfl) ?_
    refine lv_imul hx hb dX9_row_45 ?_
    refine lv_iload_n hx hb dX9_row_46 rfl (lv_at hl 2 rfl) ?_
    refine lv_iadd hx hb dX9_row_47 ?_
    obtain ⟨hi48, hw⟩ := hw
    refine va_iald hx hb hK.1 hP 1 0 rfl rfl hi48 dX9_row_48 ?_
    refine lv_icmp_lt (tgt := 55) hx hb dX9_row_49 (by decide) (fun c49 => ?_) (fun c49 => ?_)
    · have hw := hw.1 c49
      refine lv_iconst (v := (0 : Int32)) hx hb dX9_row_55 (by decide) ?_
      refine lv_istore (lv' := [(4, .int (0 : Int32)), (0, .ref h), (1, .int p1), (2, .int p2), (3, .int p3)]) hx hb dX9_row_56 hl (by decide) rfl (fun ls hl => ?_)
      refine lv_iload_n hx hb dX9_row_58 rfl (lv_at hl 4 rfl) ?_
      refine lv_istore (lv' := [(5, .int p3), (4, .int (0 : Int32)), (0, .ref h), (1, .int p1), (2, .int p2), (3, .int p3)]) hx hb dX9_row_59 hl (by decide) rfl (fun ls hl => ?_)
      refine lv_iload_n hx hb dX9_row_61 rfl (lv_at hl 4 rfl) ?_
      refine lv_istore (lv' := [(6, .int p2), (5, .int p3), (4, .int (0 : Int32)), (0, .ref h), (1, .int p1), (2, .int p2), (3, .int p3)]) hx hb dX9_row_62 hl (by decide) rfl (fun ls hl => ?_)
      refine lv_iload_n hx hb dX9_row_64 rfl (lv_at hl 4 rfl) ?_
      refine lv_istore (lv' := [(7, .int p1), (6, .int p2), (5, .int p3), (4, .int (0 : Int32)), (0, .ref h), (1, .int p1), (2, .int p2), (3, .int p3)]) hx hb dX9_row_65 hl (by decide) rfl (fun ls hl => ?_)
      obtain ⟨n67, hw⟩ := hw
      exact L67 n67 u34_0 (0 : Int32) p3 p2 p1 _ _ _ hw hP hD hS (lv_sub hl [4, 3, 2, 1, 0] rfl)
    have hw := hw.2 c49
    refine lv_bipush (v := (-6 : Int32)) hx hb dX9_row_52 (by decide) ?_
    exact z_iret hx hb hr hlocks u34_0 hw hP hS dX9_row_54
  have hw := hw.1 c26
  refine lv_bipush (v := (-2 : Int32)) hx hb dX9_row_29 (by decide) ?_
  exact z_iret hx hb hr hlocks f_rows hw hP hS dX9_row_31
abbrev cw_X9_seen (cI : ClassId) (h h_sight : Nat) (g_book g_now g_places g_power g_spite g_ways g_milky g_signs g_pad g_offAt g_offWho g_reason g_acts g_enough g_rows g_counts g_pours g_image g_isKept : Value) (f_sights : Int32) (f_sight : Nat → Int32) : va_W := [(h, .inr (9, [g_book, g_now, g_places, g_power, g_spite, g_ways, g_milky, .int f_sights, .ref h_sight, g_signs, g_pad, g_offAt, g_offWho, g_reason, g_acts, g_enough, g_rows, g_counts, g_pours, g_image, g_isKept])), (h_sight, .inl (cI, 24, .inl f_sight))]
abbrev q_X9_seen (D : va_G) (cI : ClassId) (h h_sight : Nat) (g_book g_now g_places g_power g_spite g_ways g_milky g_signs g_pad g_offAt g_offWho g_reason g_acts g_enough g_rows g_counts g_pours g_image g_isKept : Value) (post : Int32 → Int32 → (Nat → Int32) → Prop) (A : Nat → Prop) : Array Value → State → Outcome → State → Prop := va_Qi (S := Int32 × (Nat → Int32)) (fun r u => post r u.1 u.2) (fun u t => va_P D vwCl (cw_X9_seen cI h h_sight g_book g_now g_places g_power g_spite g_ways g_milky g_signs g_pad g_offAt g_offWho g_reason g_acts g_enough g_rows g_counts g_pours g_image g_isKept u.1 u.2) t.heap) A
abbrev v_X9_seen : List Cond := .code yX9_seen cX9_seen 4 (some .int) :: zB
theorem hd_X9_seen : yX9_seen.cls = RX9 ∧ yX9_seen.cls ≠ "java/lang/invoke/MethodHandle" ∧ yX9_seen.cls ≠ "java/lang/invoke/VarHandle" ∧ (parseMethodDescriptor yX9_seen.desc).map (fun d => d.parameters.length) = some 3 := by decide +kernel
set_option maxHeartbeats 4000000 in
set_option maxRecDepth 100000 in
theorem c_X9_seen (l : Launch) (D : va_G) (cI cC cZ : ClassId) (h h_sight : Nat) (g_book g_now g_places g_power g_spite g_ways g_milky g_signs g_pad g_offAt g_offWho g_reason g_acts g_enough g_rows g_counts g_pours g_image g_isKept : Value) (f_sights : Int32) (f_sight : Nat → Int32) (p1 : Int32) (p2 : Int32) (p3 : Int32) (sz : Nat) (post : Int32 → Int32 → (Nat → Int32) → Prop) (hw : w_X9_seen post f_sights f_sight p1 p2 p3) : Met l yX9_seen v_X9_seen ({ frames := 1, cells := 0, slots := 0, locals := 22 } : Room) (va_Pc [.ref h, .int p1, .int p2, .int p3] (zPre D (zT cI cC cZ) sz (cw_X9_seen cI h h_sight g_book g_now g_places g_power g_spite g_ways g_milky g_signs g_pad g_offAt g_offWho g_reason g_acts g_enough g_rows g_counts g_pours g_image g_isKept f_sights f_sight))) (q_X9_seen D cI h h_sight g_book g_now g_places g_power g_spite g_ways g_milky g_signs g_pad g_offAt g_offWho g_reason g_acts g_enough g_rows g_counts g_pours g_image g_isKept post (va_A (cw_X9_seen cI h h_sight g_book g_now g_places g_power g_spite g_ways g_milky g_signs g_pad g_offAt g_offWho g_reason g_acts g_enough g_rows g_counts g_pours g_image g_isKept f_sights f_sight) sz)) 0 0 (va_A (cw_X9_seen cI h h_sight g_book g_now g_places g_power g_spite g_ways g_milky g_signs g_pad g_offAt g_offWho g_reason g_acts g_enough g_rows g_counts g_pours g_image g_isKept f_sights f_sight) sz) := by
  refine Met.ofW (cc := cX9_seen) (maxL := 4) (ret := (some .int)) (by decide) rfl ?_
  intro p e s m args below meth c s₁ B hml hv
  obtain ⟨rfl, hsz, hP, hK, hD0⟩ := hv
  subst hsz
  have hx := B.exec
  have hb := B.bytes
  have hr := B.returns
  have hz : ∀ w ∈ zB, w.before _ s = true := fun w h => atoms_spec (ws := v_X9_seen) B.pre w (List.mem_cons_of_mem _ h)
  have hown : s.vm.findClass RX9 = some m.cls := findClass_of_methodNamed B.named
  have hlocks := B.notSynchronized
  have hF : CallFix p m c cX9_seen 4 s (([.ref h, .int p1, .int p2, .int p3] : List Value).toArray) zB RX9 := ⟨hx, hb, hml, hown, hz⟩
  have hD := hD0.self (sz := s.heap.size)
  generalize hAe : va_A (cw_X9_seen cI h h_sight g_book g_now g_places g_power g_spite g_ways g_milky g_signs g_pad g_offAt g_offWho g_reason g_acts g_enough g_rows g_counts g_pours g_image g_isKept f_sights f_sight) s.heap.size = A at hD ⊢
  have hA : ∀ q : Nat, s.heap.size ≤ q → A q := fun q h => by rw [← hAe]; exact Or.inr h
  have hS : va_S A s.heap s.heap [] := va_S.rf
  have hP : va_P D vwCl (cw_X9_seen cI h h_sight g_book g_now g_places g_power g_spite g_ways g_milky g_signs g_pad g_offAt g_offWho g_reason g_acts g_enough g_rows g_counts g_pours g_image g_isKept f_sights f_sight) s.heap := hP
  have hl := lv_entry ([.ref h, .int p1, .int p2, .int p3]) (n := 4) (Nat.le_of_ble_eq_true rfl)
  rw [lg_entry_eq]
  generalize (lg_sl ([.ref h, .int p1, .int p2, .int p3]) ++ List.replicate (4 - (lg_sl ([.ref h, .int p1, .int p2, .int p3])).length) Slot.unset).toArray = ls at hl ⊢
  have hl : lv_has ls 4 [(0, .ref h), (1, .int p1), (2, .int p2), (3, .int p3)] := hl
  have J67 : ∀ (f_sights : Int32) (f_sight : Nat → Int32) (s1 : Int32) (s2 : Int32) (H : Heap) (locs : List Loc) (ls : Array Slot) (hw : w_X9_seen_B67 post p1 p2 p3 f_sights f_sight s1 s2) (hP : va_P D vwCl (cw_X9_seen cI h h_sight g_book g_now g_places g_power g_spite g_ways g_milky g_signs g_pad g_offAt g_offWho g_reason g_acts g_enough g_rows g_counts g_pours g_image g_isKept f_sights f_sight) H) (hD : va_D A (cw_X9_seen cI h h_sight g_book g_now g_places g_power g_spite g_ways g_milky g_signs g_pad g_offAt g_offWho g_reason g_acts g_enough g_rows g_counts g_pours g_image g_isKept f_sights f_sight)) (hS : va_S A s.heap H locs) (hl : lv_has ls 4 [(0, .ref h), (3, .int p3)]), W p l e (headSpec v_X9_seen ({ frames := 1, cells := 0, slots := 0, locals := 22 } : Room)).room s m (([.ref h, .int p1, .int p2, .int p3] : List Value).toArray) below meth c H locs 0 0 (MQ below (q_X9_seen D cI h h_sight g_book g_now g_places g_power g_spite g_ways g_milky g_signs g_pad g_offAt g_offWho g_reason g_acts g_enough g_rows g_counts g_pours g_image g_isKept post A) (([.ref h, .int p1, .int p2, .int p3] : List Value).toArray) s 0 0 A) (F0 m 67 ls [.int s2, .int s1, .ref h_sight]) := by
    intro f_sights f_sight s1 s2 H locs ls hw hP hD hS hl
    unfold w_X9_seen_B67 at hw
    obtain ⟨hi67, hw⟩ := hw
    refine va_iast hx hb hK.1 hP hD hS 1 0 rfl rfl hi67 dX9_seen_67 (fun H locs hP hD hS => ?_)
    have hP : va_P D vwCl (cw_X9_seen cI h h_sight g_book g_now g_places g_power g_spite g_ways g_milky g_signs g_pad g_offAt g_offWho g_reason g_acts g_enough g_rows g_counts g_pours g_image g_isKept f_sights (upd f_sight s1.toNatClampNeg s2)) H := hP
    have hD : va_D A (cw_X9_seen cI h h_sight g_book g_now g_places g_power g_spite g_ways g_milky g_signs g_pad g_offAt g_offWho g_reason g_acts g_enough g_rows g_counts g_pours g_image g_isKept f_sights (upd f_sight s1.toNatClampNeg s2)) := hD
    refine lv_aload_n hx hb dX9_seen_68 rfl (lv_at hl 0 rfl) ?_
    refine va_get (D := D) (ci := 9) (v := .ref h_sight) (C := RX9) (T := TX9) (N := 21) hx hb hz hX_X9 hown hK.1 hP 0 rfl rfl 8 (by decide) (hz _ z3_164) (fun _ h9 => h9) rfl dX9_seen_69 ?_
    refine lv_iconst (v := (3 : Int32)) hx hb dX9_seen_72 (by decide) ?_
    refine lv_aload_n hx hb dX9_seen_73 rfl (lv_at hl 0 rfl) ?_
    refine va_get (D := D) (ci := 9) (v := .int f_sights) (C := RX9) (T := TX9) (N := 21) hx hb hz hX_X9 hown hK.1 hP 0 rfl rfl 7 (by decide) (hz _ z3_163) (fun _ h9 => h9) rfl dX9_seen_74 ?_
    refine lv_imul hx hb dX9_seen_77 ?_
    refine lv_iconst (v := (2 : Int32)) hx hb dX9_seen_78 (by decide) ?_
    refine lv_iadd hx hb dX9_seen_79 ?_
    refine lv_iload_n hx hb dX9_seen_80 rfl (lv_at hl 1 rfl) ?_
    obtain ⟨hi81, hw⟩ := hw
    refine va_iast hx hb hK.1 hP hD hS 1 0 rfl rfl hi81 dX9_seen_81 (fun H locs hP hD hS => ?_)
    have hP : va_P D vwCl (cw_X9_seen cI h h_sight g_book g_now g_places g_power g_spite g_ways g_milky g_signs g_pad g_offAt g_offWho g_reason g_acts g_enough g_rows g_counts g_pours g_image g_isKept f_sights (upd (upd f_sight s1.toNatClampNeg s2) (((3 : Int32) * f_sights) + (2 : Int32)).toNatClampNeg p3)) H := hP
    have hD : va_D A (cw_X9_seen cI h h_sight g_book g_now g_places g_power g_spite g_ways g_milky g_signs g_pad g_offAt g_offWho g_reason g_acts g_enough g_rows g_counts g_pours g_image g_isKept f_sights (upd (upd f_sight s1.toNatClampNeg s2) (((3 : Int32) * f_sights) + (2 : Int32)).toNatClampNeg p3)) := hD
    refine lv_aload_n hx hb dX9_seen_82 rfl (lv_at hl 0 rfl) ?_
    refine lv_dup hx hb dX9_seen_83 rfl ?_
    refine va_get (D := D) (ci := 9) (v := .int f_sights) (C := RX9) (T := TX9) (N := 21) hx hb hz hX_X9 hown hK.1 hP 0 rfl rfl 7 (by decide) (hz _ z3_163) (fun _ h9 => h9) rfl dX9_seen_84 ?_
    refine lv_iconst (v := (1 : Int32)) hx hb dX9_seen_87 (by decide) ?_
    refine lv_iadd hx hb dX9_seen_88 ?_
    refine va_put (D := D) (ci := 9) (v := .int (f_sights + (1 : Int32))) (ty := .int) (C := RX9) (T := TX9) (N := 21) hx hb hz hX_X9 tyX9 tyX9_ok nmX9 hown hK.1 hP hD hS 0 rfl rfl 7 (by decide) (hz _ z3_163) (fun _ h9 => h9) rfl (tyX9_ok 7 (by decide)) rfl rfl (Nat.le_of_ble_eq_true rfl) dX9_seen_89 (fun H locs hP hD hS => ?_)
    have hP : va_P D vwCl (cw_X9_seen cI h h_sight g_book g_now g_places g_power g_spite g_ways g_milky g_signs g_pad g_offAt g_offWho g_reason g_acts g_enough g_rows g_counts g_pours g_image g_isKept (f_sights + (1 : Int32)) (upd (upd f_sight s1.toNatClampNeg s2) (((3 : Int32) * f_sights) + (2 : Int32)).toNatClampNeg p3)) H := hP
    have hD : va_D A (cw_X9_seen cI h h_sight g_book g_now g_places g_power g_spite g_ways g_milky g_signs g_pad g_offAt g_offWho g_reason g_acts g_enough g_rows g_counts g_pours g_image g_isKept (f_sights + (1 : Int32)) (upd (upd f_sight s1.toNatClampNeg s2) (((3 : Int32) * f_sights) + (2 : Int32)).toNatClampNeg p3)) := hD
    refine lv_aload_n hx hb dX9_seen_92 rfl (lv_at hl 0 rfl) ?_
    refine va_get (D := D) (ci := 9) (v := .int (f_sights + (1 : Int32))) (C := RX9) (T := TX9) (N := 21) hx hb hz hX_X9 hown hK.1 hP 0 rfl rfl 7 (by decide) (hz _ z3_163) (fun _ h9 => h9) rfl dX9_seen_93 ?_
    exact z_iret hx hb hr hlocks ((f_sights + (1 : Int32)), (upd (upd f_sight s1.toNatClampNeg s2) (((3 : Int32) * f_sights) + (2 : Int32)).toNatClampNeg p3)) hw hP hS dX9_seen_96
  unfold w_X9_seen at hw
  refine lv_iload_n hx hb dX9_seen_0 rfl (lv_at hl 1 rfl) ?_
  refine lv_iconst (v := (0 : Int32)) hx hb dX9_seen_1 (by decide) ?_
  refine lv_iconst (v := (3 : Int32)) hx hb dX9_seen_2 (by decide) ?_
  refine z_ri (z_runS (As := [.int p1, .int (0 : Int32), .int (3 : Int32)]) (rest := []) hF (c_X9_in l D cI cC cZ p1 (0 : Int32) (3 : Int32) _ _ hw) (va_cwS 3 hz (z_gS z3_225 z3_226 z1_10 z3_227) rfl rfl rfl hd_X9_in ⟨Nat.le_of_ble_eq_true rfl, Nat.le_of_ble_eq_true rfl⟩) hK hP hD [] rfl rfl rfl hl.1 rfl (Nat.le_of_ble_eq_true rfl) dX9_seen_3 ⟨Nat.zero_le _, Nat.zero_le _⟩) hP hD hS hA [] rfl (fun _ => rfl) (fun _ => cw_X9_seen cI h h_sight g_book g_now g_places g_power g_spite g_ways g_milky g_signs g_pad g_offAt g_offWho g_reason g_acts g_enough g_rows g_counts g_pours g_image g_isKept f_sights f_sight) (fun _ => rfl) (fun r3 u3 H locs hw hP hD hS => ?_)
  obtain ⟨hn3, hw⟩ := hw
  try dsimp only at hw
  refine lv_if_eq (tgt := 19) hx hb dX9_seen_6 (by decide) (fun c6 => ?_) (fun c6 => ?_)
  · have hw := hw.1 c6
    refine lv_bipush (v := (-2 : Int32)) hx hb dX9_seen_19 (by decide) ?_
    exact z_iret hx hb hr hlocks (f_sights, f_sight) hw hP hS dX9_seen_21
  have hw := hw.2 c6
  refine lv_iload_n hx hb dX9_seen_9 rfl (lv_at hl 3 rfl) ?_
  refine lv_iconst (v := (0 : Int32)) hx hb dX9_seen_10 (by decide) ?_
  refine lv_bipush (v := (99 : Int32)) hx hb dX9_seen_11 (by decide) ?_
  refine z_ri (z_runS (As := [.int p3, .int (0 : Int32), .int (99 : Int32)]) (rest := []) hF (c_X9_in l D cI cC cZ p3 (0 : Int32) (99 : Int32) _ _ hw) (va_cwS 3 hz (z_gS z3_225 z3_226 z1_10 z3_227) rfl rfl rfl hd_X9_in ⟨Nat.le_of_ble_eq_true rfl, Nat.le_of_ble_eq_true rfl⟩) hK hP hD [] rfl rfl rfl hl.1 rfl (Nat.le_of_ble_eq_true rfl) dX9_seen_13 ⟨Nat.zero_le _, Nat.zero_le _⟩) hP hD hS hA [] rfl (fun _ => rfl) (fun _ => cw_X9_seen cI h h_sight g_book g_now g_places g_power g_spite g_ways g_milky g_signs g_pad g_offAt g_offWho g_reason g_acts g_enough g_rows g_counts g_pours g_image g_isKept f_sights f_sight) (fun _ => rfl) (fun r13 u13 H locs hw hP hD hS => ?_)
  obtain ⟨hn13, hw⟩ := hw
  try dsimp only at hw
  refine lv_if_ne (tgt := 22) hx hb dX9_seen_16 (by decide) (fun c16 => ?_) (fun c16 => ?_)
  · have hw := hw.2 c16
    refine lv_aload_n hx hb dX9_seen_22 rfl (lv_at hl 0 rfl) ?_
    refine va_get (D := D) (ci := 9) (v := .int f_sights) (C := RX9) (T := TX9) (N := 21) hx hb hz hX_X9 hown hK.1 hP 0 rfl rfl 7 (by decide) (hz _ z3_163) (fun _ h9 => h9) rfl dX9_seen_23 ?_
    refine lv_bipush (v := (8 : Int32)) hx hb dX9_seen_26 (by decide) ?_
    refine lv_icmp_ne (tgt := 34) hx hb dX9_seen_28 (by decide) (fun c28 => ?_) (fun c28 => ?_)
    · have hw := hw.2 c28
      refine lv_aload_n hx hb dX9_seen_34 rfl (lv_at hl 0 rfl) ?_
      refine va_get (D := D) (ci := 9) (v := .ref h_sight) (C := RX9) (T := TX9) (N := 21) hx hb hz hX_X9 hown hK.1 hP 0 rfl rfl 8 (by decide) (hz _ z3_164) (fun _ h9 => h9) rfl dX9_seen_35 ?_
      refine lv_iconst (v := (3 : Int32)) hx hb dX9_seen_38 (by decide) ?_
      refine lv_aload_n hx hb dX9_seen_39 rfl (lv_at hl 0 rfl) ?_
      refine va_get (D := D) (ci := 9) (v := .int f_sights) (C := RX9) (T := TX9) (N := 21) hx hb hz hX_X9 hown hK.1 hP 0 rfl rfl 7 (by decide) (hz _ z3_163) (fun _ h9 => h9) rfl dX9_seen_40 ?_
      refine lv_imul hx hb dX9_seen_43 ?_
      refine lv_iload_n hx hb dX9_seen_44 rfl (lv_at hl 1 rfl) ?_
      obtain ⟨hi45, hw⟩ := hw
      refine va_iast hx hb hK.1 hP hD hS 1 0 rfl rfl hi45 dX9_seen_45 (fun H locs hP hD hS => ?_)
      have hP : va_P D vwCl (cw_X9_seen cI h h_sight g_book g_now g_places g_power g_spite g_ways g_milky g_signs g_pad g_offAt g_offWho g_reason g_acts g_enough g_rows g_counts g_pours g_image g_isKept f_sights (upd f_sight ((3 : Int32) * f_sights).toNatClampNeg p1)) H := hP
      have hD : va_D A (cw_X9_seen cI h h_sight g_book g_now g_places g_power g_spite g_ways g_milky g_signs g_pad g_offAt g_offWho g_reason g_acts g_enough g_rows g_counts g_pours g_image g_isKept f_sights (upd f_sight ((3 : Int32) * f_sights).toNatClampNeg p1)) := hD
      refine lv_aload_n hx hb dX9_seen_46 rfl (lv_at hl 0 rfl) ?_
      refine va_get (D := D) (ci := 9) (v := .ref h_sight) (C := RX9) (T := TX9) (N := 21) hx hb hz hX_X9 hown hK.1 hP 0 rfl rfl 8 (by decide) (hz _ z3_164) (fun _ h9 => h9) rfl dX9_seen_47 ?_
      refine lv_iconst (v := (3 : Int32)) hx hb dX9_seen_50 (by decide) ?_
      refine lv_aload_n hx hb dX9_seen_51 rfl (lv_at hl 0 rfl) ?_
      refine va_get (D := D) (ci := 9) (v := .int f_sights) (C := RX9) (T := TX9) (N := 21) hx hb hz hX_X9 hown hK.1 hP 0 rfl rfl 7 (by decide) (hz _ z3_163) (fun _ h9 => h9) rfl dX9_seen_52 ?_
      refine lv_imul hx hb dX9_seen_55 ?_
      refine lv_iconst (v := (1 : Int32)) hx hb dX9_seen_56 (by decide) ?_
      refine lv_iadd hx hb dX9_seen_57 ?_
      refine lv_iload_n hx hb dX9_seen_58 rfl (lv_at hl 2 rfl) ?_
      refine lv_if_eq (tgt := 66) hx hb dX9_seen_59 (by decide) (fun c59 => ?_) (fun c59 => ?_)
      · have hw := hw.1 c59
        refine lv_iconst (v := (0 : Int32)) hx hb dX9_seen_66 (by decide) ?_
        exact J67 f_sights (upd f_sight ((3 : Int32) * f_sights).toNatClampNeg p1) (((3 : Int32) * f_sights) + (1 : Int32)) (0 : Int32) _ _ _ hw hP hD hS (lv_sub hl [0, 3] rfl)
      have hw := hw.2 c59
      refine lv_iconst (v := (1 : Int32)) hx hb dX9_seen_62 (by decide) ?_
      refine lv_goto (tgt := 67) hx hb dX9_seen_63 (by decide) ?_
      exact J67 f_sights (upd f_sight ((3 : Int32) * f_sights).toNatClampNeg p1) (((3 : Int32) * f_sights) + (1 : Int32)) (1 : Int32) _ _ _ hw hP hD hS (lv_sub hl [0, 3] rfl)
    have hw := hw.1 c28
    refine lv_bipush (v := (-4 : Int32)) hx hb dX9_seen_31 (by decide) ?_
    exact z_iret hx hb hr hlocks (f_sights, f_sight) hw hP hS dX9_seen_33
  have hw := hw.1 c16
  refine lv_bipush (v := (-2 : Int32)) hx hb dX9_seen_19 (by decide) ?_
  exact z_iret hx hb hr hlocks (f_sights, f_sight) hw hP hS dX9_seen_21
abbrev cw_X9_forget (h : Nat) (g_book g_now g_places g_power g_spite g_ways g_milky g_sight g_signs g_pad g_offAt g_offWho g_reason g_acts g_enough g_rows g_counts g_pours g_image g_isKept : Value) (f_sights : Int32) : va_W := [(h, .inr (9, [g_book, g_now, g_places, g_power, g_spite, g_ways, g_milky, .int f_sights, g_sight, g_signs, g_pad, g_offAt, g_offWho, g_reason, g_acts, g_enough, g_rows, g_counts, g_pours, g_image, g_isKept]))]
abbrev q_X9_forget (D : va_G) (h : Nat) (g_book g_now g_places g_power g_spite g_ways g_milky g_sight g_signs g_pad g_offAt g_offWho g_reason g_acts g_enough g_rows g_counts g_pours g_image g_isKept : Value) (post : Int32 → Int32 → Prop) (A : Nat → Prop) : Array Value → State → Outcome → State → Prop := va_Qi (S := Int32) (fun r u => post r u) (fun u t => va_P D vwCl (cw_X9_forget h g_book g_now g_places g_power g_spite g_ways g_milky g_sight g_signs g_pad g_offAt g_offWho g_reason g_acts g_enough g_rows g_counts g_pours g_image g_isKept u) t.heap) A
abbrev v_X9_forget : List Cond := .code yX9_forget cX9_forget 2 (some .int) :: zB
theorem hd_X9_forget : yX9_forget.cls = RX9 ∧ yX9_forget.cls ≠ "java/lang/invoke/MethodHandle" ∧ yX9_forget.cls ≠ "java/lang/invoke/VarHandle" ∧ (parseMethodDescriptor yX9_forget.desc).map (fun d => d.parameters.length) = some 0 := by decide +kernel
set_option maxHeartbeats 4000000 in
set_option maxRecDepth 100000 in
theorem c_X9_forget (l : Launch) (D : va_G) (cI cC cZ : ClassId) (h : Nat) (g_book g_now g_places g_power g_spite g_ways g_milky g_sight g_signs g_pad g_offAt g_offWho g_reason g_acts g_enough g_rows g_counts g_pours g_image g_isKept : Value) (f_sights : Int32) (sz : Nat) (post : Int32 → Int32 → Prop) (hw : w_X9_forget post f_sights) : Met l yX9_forget v_X9_forget ({ frames := 0, cells := 0, slots := 0, locals := 0 } : Room) (va_Pc [.ref h] (zPre D (zT cI cC cZ) sz (cw_X9_forget h g_book g_now g_places g_power g_spite g_ways g_milky g_sight g_signs g_pad g_offAt g_offWho g_reason g_acts g_enough g_rows g_counts g_pours g_image g_isKept f_sights))) (q_X9_forget D h g_book g_now g_places g_power g_spite g_ways g_milky g_sight g_signs g_pad g_offAt g_offWho g_reason g_acts g_enough g_rows g_counts g_pours g_image g_isKept post (va_A (cw_X9_forget h g_book g_now g_places g_power g_spite g_ways g_milky g_sight g_signs g_pad g_offAt g_offWho g_reason g_acts g_enough g_rows g_counts g_pours g_image g_isKept f_sights) sz)) 0 0 (va_A (cw_X9_forget h g_book g_now g_places g_power g_spite g_ways g_milky g_sight g_signs g_pad g_offAt g_offWho g_reason g_acts g_enough g_rows g_counts g_pours g_image g_isKept f_sights) sz) := by
  refine Met.ofW (cc := cX9_forget) (maxL := 2) (ret := (some .int)) (by decide) rfl ?_
  intro p e s m args below meth c s₁ B hml hv
  obtain ⟨rfl, hsz, hP, hK, hD0⟩ := hv
  subst hsz
  have hx := B.exec
  have hb := B.bytes
  have hr := B.returns
  have hz : ∀ w ∈ zB, w.before _ s = true := fun w h => atoms_spec (ws := v_X9_forget) B.pre w (List.mem_cons_of_mem _ h)
  have hown : s.vm.findClass RX9 = some m.cls := findClass_of_methodNamed B.named
  have hlocks := B.notSynchronized
  have hF : CallFix p m c cX9_forget 2 s (([.ref h] : List Value).toArray) zB RX9 := ⟨hx, hb, hml, hown, hz⟩
  have hD := hD0.self (sz := s.heap.size)
  generalize hAe : va_A (cw_X9_forget h g_book g_now g_places g_power g_spite g_ways g_milky g_sight g_signs g_pad g_offAt g_offWho g_reason g_acts g_enough g_rows g_counts g_pours g_image g_isKept f_sights) s.heap.size = A at hD ⊢
  have hA : ∀ q : Nat, s.heap.size ≤ q → A q := fun q h => by rw [← hAe]; exact Or.inr h
  have hS : va_S A s.heap s.heap [] := va_S.rf
  have hP : va_P D vwCl (cw_X9_forget h g_book g_now g_places g_power g_spite g_ways g_milky g_sight g_signs g_pad g_offAt g_offWho g_reason g_acts g_enough g_rows g_counts g_pours g_image g_isKept f_sights) s.heap := hP
  have hl := lv_entry ([.ref h]) (n := 2) (Nat.le_of_ble_eq_true rfl)
  rw [lg_entry_eq]
  generalize (lg_sl ([.ref h]) ++ List.replicate (2 - (lg_sl ([.ref h])).length) Slot.unset).toArray = ls at hl ⊢
  have hl : lv_has ls 2 [(0, .ref h)] := hl
  unfold w_X9_forget at hw
  refine lv_aload_n hx hb dX9_forget_0 rfl (lv_at hl 0 rfl) ?_
  refine va_get (D := D) (ci := 9) (v := .int f_sights) (C := RX9) (T := TX9) (N := 21) hx hb hz hX_X9 hown hK.1 hP 0 rfl rfl 7 (by decide) (hz _ z3_163) (fun _ h9 => h9) rfl dX9_forget_1 ?_
  refine lv_istore_n (lv' := [(1, .int f_sights), (0, .ref h)]) hx hb dX9_forget_4 rfl hl (by decide) rfl (fun ls hl => ?_)
  refine lv_aload_n hx hb dX9_forget_5 rfl (lv_at hl 1 rfl) ?_
  refine lv_iconst (v := (0 : Int32)) hx hb dX9_forget_6 (by decide) ?_
  refine va_put (D := D) (ci := 9) (v := .int (0 : Int32)) (ty := .int) (C := RX9) (T := TX9) (N := 21) hx hb hz hX_X9 tyX9 tyX9_ok nmX9 hown hK.1 hP hD hS 0 rfl rfl 7 (by decide) (hz _ z3_163) (fun _ h9 => h9) rfl (tyX9_ok 7 (by decide)) rfl rfl (Nat.le_of_ble_eq_true rfl) dX9_forget_7 (fun H locs hP hD hS => ?_)
  have hP : va_P D vwCl (cw_X9_forget h g_book g_now g_places g_power g_spite g_ways g_milky g_sight g_signs g_pad g_offAt g_offWho g_reason g_acts g_enough g_rows g_counts g_pours g_image g_isKept (0 : Int32)) H := hP
  have hD : va_D A (cw_X9_forget h g_book g_now g_places g_power g_spite g_ways g_milky g_sight g_signs g_pad g_offAt g_offWho g_reason g_acts g_enough g_rows g_counts g_pours g_image g_isKept (0 : Int32)) := hD
  refine lv_iload_n hx hb dX9_forget_10 rfl (lv_at hl 0 rfl) ?_
  exact z_iret hx hb hr hlocks (0 : Int32) hw hP hS dX9_forget_11
abbrev cw_X9_lossOf : va_W := []
abbrev q_X9_lossOf (D : va_G) (post : Int32 → Prop) (A : Nat → Prop) : Array Value → State → Outcome → State → Prop := va_Qi (S := Unit) (fun r _ => post r ) (fun _ t => va_P D vwCl (cw_X9_lossOf) t.heap) A
abbrev v_X9_lossOf : List Cond := .code yX9_lossOf cX9_lossOf 3 (some .int) :: zB
theorem hd_X9_lossOf : yX9_lossOf.cls ≠ "java/lang/invoke/MethodHandle" ∧ yX9_lossOf.cls ≠ "java/lang/invoke/VarHandle" ∧ (parseMethodDescriptor yX9_lossOf.desc).map (fun d => d.parameters.length) = some 3 := by decide +kernel
set_option maxHeartbeats 4000000 in
set_option maxRecDepth 100000 in
theorem c_X9_lossOf (l : Launch) (D : va_G) (cI cC cZ : ClassId) (p0 : Int32) (p1 : Int32) (p2 : Int32) (sz : Nat) (post : Int32 → Prop) (hw : w_X9_lossOf post p0 p1 p2) : Met l yX9_lossOf v_X9_lossOf ({ frames := 0, cells := 0, slots := 0, locals := 0 } : Room) (va_Pc [.int p0, .int p1, .int p2] (zPre D (zT cI cC cZ) sz (cw_X9_lossOf))) (q_X9_lossOf D post (va_A (cw_X9_lossOf) sz)) 0 0 (va_A (cw_X9_lossOf) sz) := by
  refine Met.ofW (cc := cX9_lossOf) (maxL := 3) (ret := (some .int)) (by decide) rfl ?_
  intro p e s m args below meth c s₁ B hml hv
  obtain ⟨rfl, hsz, hP, hK, hD0⟩ := hv
  subst hsz
  have hx := B.exec
  have hb := B.bytes
  have hr := B.returns
  have hz : ∀ w ∈ zB, w.before _ s = true := fun w h => atoms_spec (ws := v_X9_lossOf) B.pre w (List.mem_cons_of_mem _ h)
  have hown : s.vm.findClass RX9 = some m.cls := findClass_of_methodNamed B.named
  have hlocks := B.notSynchronized
  have hF : CallFix p m c cX9_lossOf 3 s (([.int p0, .int p1, .int p2] : List Value).toArray) zB RX9 := ⟨hx, hb, hml, hown, hz⟩
  have hD := hD0.self (sz := s.heap.size)
  generalize hAe : va_A (cw_X9_lossOf) s.heap.size = A at hD ⊢
  have hA : ∀ q : Nat, s.heap.size ≤ q → A q := fun q h => by rw [← hAe]; exact Or.inr h
  have hS : va_S A s.heap s.heap [] := va_S.rf
  have hP : va_P D vwCl (cw_X9_lossOf) s.heap := hP
  have hl := lv_entry ([.int p0, .int p1, .int p2]) (n := 3) (Nat.le_of_ble_eq_true rfl)
  rw [lg_entry_eq]
  generalize (lg_sl ([.int p0, .int p1, .int p2]) ++ List.replicate (3 - (lg_sl ([.int p0, .int p1, .int p2])).length) Slot.unset).toArray = ls at hl ⊢
  have hl : lv_has ls 3 [(0, .int p0), (1, .int p1), (2, .int p2)] := hl
  unfold w_X9_lossOf at hw
  refine lv_iload_n hx hb dX9_lossOf_0 rfl (lv_at hl 0 rfl) ?_
  refine lv_bipush (v := (10 : Int32)) hx hb dX9_lossOf_1 (by decide) ?_
  refine lv_idiv hx hb dX9_lossOf_3 (by decide) ?_
  refine lv_iconst (v := (4 : Int32)) hx hb dX9_lossOf_4 (by decide) ?_
  refine lv_iload_n hx hb dX9_lossOf_5 rfl (lv_at hl 1 rfl) ?_
  refine lv_isub hx hb dX9_lossOf_6 ?_
  refine lv_imul hx hb dX9_lossOf_7 ?_
  refine lv_iload_n hx hb dX9_lossOf_8 rfl (lv_at hl 0 rfl) ?_
  refine lv_bipush (v := (10 : Int32)) hx hb dX9_lossOf_9 (by decide) ?_
  refine lv_irem hx hb dX9_lossOf_11 (by decide) ?_
  refine lv_iload_n hx hb dX9_lossOf_12 rfl (lv_at hl 2 rfl) ?_
  refine lv_imul hx hb dX9_lossOf_13 ?_
  refine lv_iadd hx hb dX9_lossOf_14 ?_
  exact z_iret hx hb hr hlocks () hw hP hS dX9_lossOf_15
abbrev cw_X9_isFit (cI : ClassId) (h h_sight : Nat) (g_book g_now g_places g_power g_spite g_ways g_milky g_signs g_pad g_offAt g_offWho g_reason g_acts g_enough g_rows g_counts g_pours g_image g_isKept : Value) (f_sights : Int32) (f_sight : Nat → Int32) : va_W := [(h, .inr (9, [g_book, g_now, g_places, g_power, g_spite, g_ways, g_milky, .int f_sights, .ref h_sight, g_signs, g_pad, g_offAt, g_offWho, g_reason, g_acts, g_enough, g_rows, g_counts, g_pours, g_image, g_isKept])), (h_sight, .inl (cI, 24, .inl f_sight))]
abbrev q_X9_isFit (D : va_G) (cI : ClassId) (h h_sight : Nat) (g_book g_now g_places g_power g_spite g_ways g_milky g_signs g_pad g_offAt g_offWho g_reason g_acts g_enough g_rows g_counts g_pours g_image g_isKept : Value) (post : Int32 → Prop) (f_sights : Int32) (f_sight : Nat → Int32) (A : Nat → Prop) : Array Value → State → Outcome → State → Prop := va_Qi (S := Unit) (fun r _ => narrow .boolean (.int r) = .int r ∧ post r ) (fun _ t => va_P D vwCl (cw_X9_isFit cI h h_sight g_book g_now g_places g_power g_spite g_ways g_milky g_signs g_pad g_offAt g_offWho g_reason g_acts g_enough g_rows g_counts g_pours g_image g_isKept f_sights f_sight) t.heap) A
abbrev v_X9_isFit : List Cond := .code yX9_isFit cX9_isFit 4 (some .boolean) :: zB
theorem hd_X9_isFit : yX9_isFit.cls = RX9 ∧ yX9_isFit.cls ≠ "java/lang/invoke/MethodHandle" ∧ yX9_isFit.cls ≠ "java/lang/invoke/VarHandle" ∧ (parseMethodDescriptor yX9_isFit.desc).map (fun d => d.parameters.length) = some 1 := by decide +kernel
set_option maxHeartbeats 4000000 in
set_option maxRecDepth 100000 in
theorem c_X9_isFit (l : Launch) (D : va_G) (cI cC cZ : ClassId) (h h_sight : Nat) (g_book g_now g_places g_power g_spite g_ways g_milky g_signs g_pad g_offAt g_offWho g_reason g_acts g_enough g_rows g_counts g_pours g_image g_isKept : Value) (f_sights : Int32) (f_sight : Nat → Int32) (p1 : Int32) (sz : Nat) (post : Int32 → Prop) (hw : w_X9_isFit post f_sights f_sight p1) : Met l yX9_isFit v_X9_isFit ({ frames := 1, cells := 0, slots := 0, locals := 22 } : Room) (va_Pc [.ref h, .int p1] (zPre D (zT cI cC cZ) sz (cw_X9_isFit cI h h_sight g_book g_now g_places g_power g_spite g_ways g_milky g_signs g_pad g_offAt g_offWho g_reason g_acts g_enough g_rows g_counts g_pours g_image g_isKept f_sights f_sight))) (q_X9_isFit D cI h h_sight g_book g_now g_places g_power g_spite g_ways g_milky g_signs g_pad g_offAt g_offWho g_reason g_acts g_enough g_rows g_counts g_pours g_image g_isKept post f_sights f_sight (va_A (cw_X9_isFit cI h h_sight g_book g_now g_places g_power g_spite g_ways g_milky g_signs g_pad g_offAt g_offWho g_reason g_acts g_enough g_rows g_counts g_pours g_image g_isKept f_sights f_sight) sz)) 0 0 (va_A (cw_X9_isFit cI h h_sight g_book g_now g_places g_power g_spite g_ways g_milky g_signs g_pad g_offAt g_offWho g_reason g_acts g_enough g_rows g_counts g_pours g_image g_isKept f_sights f_sight) sz) := by
  refine Met.ofW (cc := cX9_isFit) (maxL := 4) (ret := (some .boolean)) (by decide) rfl ?_
  intro p e s m args below meth c s₁ B hml hv
  obtain ⟨rfl, hsz, hP, hK, hD0⟩ := hv
  subst hsz
  have hx := B.exec
  have hb := B.bytes
  have hr := B.returns
  have hz : ∀ w ∈ zB, w.before _ s = true := fun w h => atoms_spec (ws := v_X9_isFit) B.pre w (List.mem_cons_of_mem _ h)
  have hown : s.vm.findClass RX9 = some m.cls := findClass_of_methodNamed B.named
  have hlocks := B.notSynchronized
  have hF : CallFix p m c cX9_isFit 4 s (([.ref h, .int p1] : List Value).toArray) zB RX9 := ⟨hx, hb, hml, hown, hz⟩
  have hD := hD0.self (sz := s.heap.size)
  generalize hAe : va_A (cw_X9_isFit cI h h_sight g_book g_now g_places g_power g_spite g_ways g_milky g_signs g_pad g_offAt g_offWho g_reason g_acts g_enough g_rows g_counts g_pours g_image g_isKept f_sights f_sight) s.heap.size = A at hD ⊢
  have hA : ∀ q : Nat, s.heap.size ≤ q → A q := fun q h => by rw [← hAe]; exact Or.inr h
  have hS : va_S A s.heap s.heap [] := va_S.rf
  have hP : va_P D vwCl (cw_X9_isFit cI h h_sight g_book g_now g_places g_power g_spite g_ways g_milky g_signs g_pad g_offAt g_offWho g_reason g_acts g_enough g_rows g_counts g_pours g_image g_isKept f_sights f_sight) s.heap := hP
  have hl := lv_entry ([.ref h, .int p1]) (n := 4) (Nat.le_of_ble_eq_true rfl)
  rw [lg_entry_eq]
  generalize (lg_sl ([.ref h, .int p1]) ++ List.replicate (4 - (lg_sl ([.ref h, .int p1])).length) Slot.unset).toArray = ls at hl ⊢
  have hl : lv_has ls 4 [(0, .ref h), (1, .int p1)] := hl
  have L4 : ∀ (n4 : Nat) (x2 : Int32) (x3 : Int32) (H : Heap) (locs : List Loc) (ls : Array Slot) (hw : w_X9_isFit_B4 post f_sights f_sight p1 n4 x2 x3) (hP : va_P D vwCl (cw_X9_isFit cI h h_sight g_book g_now g_places g_power g_spite g_ways g_milky g_signs g_pad g_offAt g_offWho g_reason g_acts g_enough g_rows g_counts g_pours g_image g_isKept f_sights f_sight) H) (hD : va_D A (cw_X9_isFit cI h h_sight g_book g_now g_places g_power g_spite g_ways g_milky g_signs g_pad g_offAt g_offWho g_reason g_acts g_enough g_rows g_counts g_pours g_image g_isKept f_sights f_sight)) (hS : va_S A s.heap H locs) (hl : lv_has ls 4 [(0, .ref h), (1, .int p1), (2, .int x2), (3, .int x3)]), W p l e (headSpec v_X9_isFit ({ frames := 1, cells := 0, slots := 0, locals := 22 } : Room)).room s m (([.ref h, .int p1] : List Value).toArray) below meth c H locs 0 0 (MQ below (q_X9_isFit D cI h h_sight g_book g_now g_places g_power g_spite g_ways g_milky g_signs g_pad g_offAt g_offWho g_reason g_acts g_enough g_rows g_counts g_pours g_image g_isKept post f_sights f_sight A) (([.ref h, .int p1] : List Value).toArray) s 0 0 A) (F0 m 4 ls []) := by
    intro n4
    induction n4 with
    | zero => intro x2 x3 H locs ls hw; exact False.elim hw
    | succ n4 ih4 =>
      have J56 : ∀ (x3 : Int32) (s0 : Int32) (H : Heap) (locs : List Loc) (ls : Array Slot) (hw : w_X9_isFit_B56 post f_sights f_sight p1 (fun x2 x3 => w_X9_isFit_B4 post f_sights f_sight p1 n4 x2 x3) x3 s0) (hP : va_P D vwCl (cw_X9_isFit cI h h_sight g_book g_now g_places g_power g_spite g_ways g_milky g_signs g_pad g_offAt g_offWho g_reason g_acts g_enough g_rows g_counts g_pours g_image g_isKept f_sights f_sight) H) (hD : va_D A (cw_X9_isFit cI h h_sight g_book g_now g_places g_power g_spite g_ways g_milky g_signs g_pad g_offAt g_offWho g_reason g_acts g_enough g_rows g_counts g_pours g_image g_isKept f_sights f_sight)) (hS : va_S A s.heap H locs) (hl : lv_has ls 4 [(0, .ref h), (1, .int p1), (3, .int x3)]), W p l e (headSpec v_X9_isFit ({ frames := 1, cells := 0, slots := 0, locals := 22 } : Room)).room s m (([.ref h, .int p1] : List Value).toArray) below meth c H locs 0 0 (MQ below (q_X9_isFit D cI h h_sight g_book g_now g_places g_power g_spite g_ways g_milky g_signs g_pad g_offAt g_offWho g_reason g_acts g_enough g_rows g_counts g_pours g_image g_isKept post f_sights f_sight A) (([.ref h, .int p1] : List Value).toArray) s 0 0 A) (F0 m 56 ls [.int s0]) := by
        intro x3 s0 H locs ls hw hP hD hS hl
        unfold w_X9_isFit_B56 at hw
        refine lv_istore_n (lv' := [(2, .int s0), (0, .ref h), (1, .int p1), (3, .int x3)]) hx hb dX9_isFit_56 rfl hl (by decide) rfl (fun ls hl => ?_)
        refine lv_iinc (k := 3) (v := (x3 + 1)) (lv' := [(3, .int (x3 + 1)), (2, .int s0), (0, .ref h), (1, .int p1)]) hx hb dX9_isFit_57 hl rfl rfl (by decide) rfl (fun ls hl => ?_)
        refine lv_goto (tgt := 4) hx hb dX9_isFit_60 (by decide) ?_
        exact ih4 s0 (x3 + 1) _ _ _ hw hP hD hS (lv_sub hl [2, 3, 1, 0] rfl)
      intro x2 x3 H locs ls hw hP hD hS hl
      unfold w_X9_isFit_B4 at hw
      refine lv_iload_n hx hb dX9_isFit_4 rfl (lv_at hl 3 rfl) ?_
      refine lv_aload_n hx hb dX9_isFit_5 rfl (lv_at hl 0 rfl) ?_
      refine va_get (D := D) (ci := 9) (v := .int f_sights) (C := RX9) (T := TX9) (N := 21) hx hb hz hX_X9 hown hK.1 hP 0 rfl rfl 7 (by decide) (hz _ z3_163) (fun _ h9 => h9) rfl dX9_isFit_6 ?_
      refine lv_icmp_ge (tgt := 63) hx hb dX9_isFit_9 (by decide) (fun c9 => ?_) (fun c9 => ?_)
      · have hw := hw.1 c9
        refine lv_iload_n hx hb dX9_isFit_63 rfl (lv_at hl 2 rfl) ?_
        obtain ⟨hn, hw⟩ := hw
        exact z_zret hx hb hr hlocks hn () hw hP hS dX9_isFit_64
      have hw := hw.2 c9
      refine lv_iload_n hx hb dX9_isFit_12 rfl (lv_at hl 2 rfl) ?_
      refine lv_if_eq (tgt := 63) hx hb dX9_isFit_13 (by decide) (fun c13 => ?_) (fun c13 => ?_)
      · have hw := hw.1 c13
        refine lv_iload_n hx hb dX9_isFit_63 rfl (lv_at hl 2 rfl) ?_
        obtain ⟨hn, hw⟩ := hw
        exact z_zret hx hb hr hlocks hn () hw hP hS dX9_isFit_64
      have hw := hw.2 c13
      refine lv_iload_n hx hb dX9_isFit_16 rfl (lv_at hl 1 rfl) ?_
      refine lv_aload_n hx hb dX9_isFit_17 rfl (lv_at hl 0 rfl) ?_
      refine va_get (D := D) (ci := 9) (v := .ref h_sight) (C := RX9) (T := TX9) (N := 21) hx hb hz hX_X9 hown hK.1 hP 0 rfl rfl 8 (by decide) (hz _ z3_164) (fun _ h9 => h9) rfl dX9_isFit_18 ?_
      refine lv_iconst (v := (3 : Int32)) hx hb dX9_isFit_21 (by decide) ?_
      refine lv_iload_n hx hb dX9_isFit_22 rfl (lv_at hl 3 rfl) ?_
      refine lv_imul hx hb dX9_isFit_23 ?_
      obtain ⟨hi24, hw⟩ := hw
      refine va_iald hx hb hK.1 hP 1 0 rfl rfl hi24 dX9_isFit_24 ?_
      refine lv_aload_n hx hb dX9_isFit_25 rfl (lv_at hl 0 rfl) ?_
      refine va_get (D := D) (ci := 9) (v := .ref h_sight) (C := RX9) (T := TX9) (N := 21) hx hb hz hX_X9 hown hK.1 hP 0 rfl rfl 8 (by decide) (hz _ z3_164) (fun _ h9 => h9) rfl dX9_isFit_26 ?_
      refine lv_iconst (v := (3 : Int32)) hx hb dX9_isFit_29 (by decide) ?_
      refine lv_iload_n hx hb dX9_isFit_30 rfl (lv_at hl 3 rfl) ?_
      refine lv_imul hx hb dX9_isFit_31 ?_
      refine lv_iconst (v := (1 : Int32)) hx hb dX9_isFit_32 (by decide) ?_
      refine lv_iadd hx hb dX9_isFit_33 ?_
      obtain ⟨hi34, hw⟩ := hw
      refine va_iald hx hb hK.1 hP 1 0 rfl rfl hi34 dX9_isFit_34 ?_
      refine z_ri (z_runS (As := [.int p1, .int (f_sight ((3 : Int32) * x3).toNatClampNeg), .int (f_sight (((3 : Int32) * x3) + (1 : Int32)).toNatClampNeg)]) (rest := []) hF (c_X9_lossOf l D cI cC cZ p1 (f_sight ((3 : Int32) * x3).toNatClampNeg) (f_sight (((3 : Int32) * x3) + (1 : Int32)).toNatClampNeg) _ _ hw) (va_cwS 3 hz (z_gS z4_160 z4_161 z1_10 z4_162) rfl rfl rfl hd_X9_lossOf ⟨Nat.le_of_ble_eq_true rfl, Nat.le_of_ble_eq_true rfl⟩) hK hP hD [] rfl rfl rfl hl.1 rfl (Nat.le_of_ble_eq_true rfl) dX9_isFit_35 ⟨Nat.zero_le _, Nat.zero_le _⟩) hP hD hS hA [] rfl (fun _ => rfl) (fun _ => cw_X9_isFit cI h h_sight g_book g_now g_places g_power g_spite g_ways g_milky g_signs g_pad g_offAt g_offWho g_reason g_acts g_enough g_rows g_counts g_pours g_image g_isKept f_sights f_sight) (fun _ => rfl) (fun r35 u35 H locs hw hP hD hS => ?_)
      try dsimp only at hw
      refine lv_aload_n hx hb dX9_isFit_38 rfl (lv_at hl 0 rfl) ?_
      refine va_get (D := D) (ci := 9) (v := .ref h_sight) (C := RX9) (T := TX9) (N := 21) hx hb hz hX_X9 hown hK.1 hP 0 rfl rfl 8 (by decide) (hz _ z3_164) (fun _ h9 => h9) rfl dX9_isFit_39 ?_
      refine lv_iconst (v := (3 : Int32)) hx hb dX9_isFit_42 (by decide) ?_
      refine lv_iload_n hx hb dX9_isFit_43 rfl (lv_at hl 3 rfl) ?_
      refine lv_imul hx hb dX9_isFit_44 ?_
      refine lv_iconst (v := (2 : Int32)) hx hb dX9_isFit_45 (by decide) ?_
      refine lv_iadd hx hb dX9_isFit_46 ?_
      obtain ⟨hi47, hw⟩ := hw
      refine va_iald hx hb hK.1 hP 1 0 rfl rfl hi47 dX9_isFit_47 ?_
      refine lv_icmp_ne (tgt := 55) hx hb dX9_isFit_48 (by decide) (fun c48 => ?_) (fun c48 => ?_)
      · have hw := hw.2 c48
        refine lv_iconst (v := (0 : Int32)) hx hb dX9_isFit_55 (by decide) ?_
        exact J56 x3 (0 : Int32) _ _ _ hw hP hD hS (lv_sub hl [0, 1, 3] rfl)
      have hw := hw.1 c48
      refine lv_iconst (v := (1 : Int32)) hx hb dX9_isFit_51 (by decide) ?_
      refine lv_goto (tgt := 56) hx hb dX9_isFit_52 (by decide) ?_
      exact J56 x3 (1 : Int32) _ _ _ hw hP hD hS (lv_sub hl [0, 1, 3] rfl)
  unfold w_X9_isFit at hw
  refine lv_iconst (v := (1 : Int32)) hx hb dX9_isFit_0 (by decide) ?_
  refine lv_istore_n (lv' := [(2, .int (1 : Int32)), (0, .ref h), (1, .int p1)]) hx hb dX9_isFit_1 rfl hl (by decide) rfl (fun ls hl => ?_)
  refine lv_iconst (v := (0 : Int32)) hx hb dX9_isFit_2 (by decide) ?_
  refine lv_istore_n (lv' := [(3, .int (0 : Int32)), (2, .int (1 : Int32)), (0, .ref h), (1, .int p1)]) hx hb dX9_isFit_3 rfl hl (by decide) rfl (fun ls hl => ?_)
  obtain ⟨n4, hw⟩ := hw
  exact L4 n4 (1 : Int32) (0 : Int32) _ _ _ hw hP hD hS (lv_sub hl [2, 3, 1, 0] rfl)
abbrev cw_X9_so (cI : ClassId) (h h_sight : Nat) (g_book g_now g_places g_power g_spite g_ways g_milky g_signs g_pad g_offAt g_offWho g_reason g_acts g_enough g_rows g_counts g_pours g_image g_isKept : Value) (f_sights : Int32) (f_sight : Nat → Int32) : va_W := [(h, .inr (9, [g_book, g_now, g_places, g_power, g_spite, g_ways, g_milky, .int f_sights, .ref h_sight, g_signs, g_pad, g_offAt, g_offWho, g_reason, g_acts, g_enough, g_rows, g_counts, g_pours, g_image, g_isKept])), (h_sight, .inl (cI, 24, .inl f_sight))]
abbrev q_X9_so (D : va_G) (cI : ClassId) (h h_sight : Nat) (g_book g_now g_places g_power g_spite g_ways g_milky g_signs g_pad g_offAt g_offWho g_reason g_acts g_enough g_rows g_counts g_pours g_image g_isKept : Value) (post : Int32 → Prop) (f_sights : Int32) (f_sight : Nat → Int32) (A : Nat → Prop) : Array Value → State → Outcome → State → Prop := va_Qi (S := Unit) (fun r _ => post r ) (fun _ t => va_P D vwCl (cw_X9_so cI h h_sight g_book g_now g_places g_power g_spite g_ways g_milky g_signs g_pad g_offAt g_offWho g_reason g_acts g_enough g_rows g_counts g_pours g_image g_isKept f_sights f_sight) t.heap) A
abbrev v_X9_so : List Cond := .code yX9_so cX9_so 4 (some .int) :: zB
theorem hd_X9_so : yX9_so.cls = RX9 ∧ yX9_so.cls ≠ "java/lang/invoke/MethodHandle" ∧ yX9_so.cls ≠ "java/lang/invoke/VarHandle" ∧ (parseMethodDescriptor yX9_so.desc).map (fun d => d.parameters.length) = some 1 := by decide +kernel
set_option maxHeartbeats 4000000 in
set_option maxRecDepth 100000 in
theorem c_X9_so (l : Launch) (D : va_G) (cI cC cZ : ClassId) (h h_sight : Nat) (g_book g_now g_places g_power g_spite g_ways g_milky g_signs g_pad g_offAt g_offWho g_reason g_acts g_enough g_rows g_counts g_pours g_image g_isKept : Value) (f_sights : Int32) (f_sight : Nat → Int32) (p1 : Int32) (sz : Nat) (post : Int32 → Prop) (hw : w_X9_so post f_sights f_sight p1) : Met l yX9_so v_X9_so ({ frames := 2, cells := 0, slots := 0, locals := 45 } : Room) (va_Pc [.ref h, .int p1] (zPre D (zT cI cC cZ) sz (cw_X9_so cI h h_sight g_book g_now g_places g_power g_spite g_ways g_milky g_signs g_pad g_offAt g_offWho g_reason g_acts g_enough g_rows g_counts g_pours g_image g_isKept f_sights f_sight))) (q_X9_so D cI h h_sight g_book g_now g_places g_power g_spite g_ways g_milky g_signs g_pad g_offAt g_offWho g_reason g_acts g_enough g_rows g_counts g_pours g_image g_isKept post f_sights f_sight (va_A (cw_X9_so cI h h_sight g_book g_now g_places g_power g_spite g_ways g_milky g_signs g_pad g_offAt g_offWho g_reason g_acts g_enough g_rows g_counts g_pours g_image g_isKept f_sights f_sight) sz)) 0 0 (va_A (cw_X9_so cI h h_sight g_book g_now g_places g_power g_spite g_ways g_milky g_signs g_pad g_offAt g_offWho g_reason g_acts g_enough g_rows g_counts g_pours g_image g_isKept f_sights f_sight) sz) := by
  refine Met.ofW (cc := cX9_so) (maxL := 4) (ret := (some .int)) (by decide) rfl ?_
  intro p e s m args below meth c s₁ B hml hv
  obtain ⟨rfl, hsz, hP, hK, hD0⟩ := hv
  subst hsz
  have hx := B.exec
  have hb := B.bytes
  have hr := B.returns
  have hz : ∀ w ∈ zB, w.before _ s = true := fun w h => atoms_spec (ws := v_X9_so) B.pre w (List.mem_cons_of_mem _ h)
  have hown : s.vm.findClass RX9 = some m.cls := findClass_of_methodNamed B.named
  have hlocks := B.notSynchronized
  have hF : CallFix p m c cX9_so 4 s (([.ref h, .int p1] : List Value).toArray) zB RX9 := ⟨hx, hb, hml, hown, hz⟩
  have hD := hD0.self (sz := s.heap.size)
  generalize hAe : va_A (cw_X9_so cI h h_sight g_book g_now g_places g_power g_spite g_ways g_milky g_signs g_pad g_offAt g_offWho g_reason g_acts g_enough g_rows g_counts g_pours g_image g_isKept f_sights f_sight) s.heap.size = A at hD ⊢
  have hA : ∀ q : Nat, s.heap.size ≤ q → A q := fun q h => by rw [← hAe]; exact Or.inr h
  have hS : va_S A s.heap s.heap [] := va_S.rf
  have hP : va_P D vwCl (cw_X9_so cI h h_sight g_book g_now g_places g_power g_spite g_ways g_milky g_signs g_pad g_offAt g_offWho g_reason g_acts g_enough g_rows g_counts g_pours g_image g_isKept f_sights f_sight) s.heap := hP
  have hl := lv_entry ([.ref h, .int p1]) (n := 4) (Nat.le_of_ble_eq_true rfl)
  rw [lg_entry_eq]
  generalize (lg_sl ([.ref h, .int p1]) ++ List.replicate (4 - (lg_sl ([.ref h, .int p1])).length) Slot.unset).toArray = ls at hl ⊢
  have hl : lv_has ls 4 [(0, .ref h), (1, .int p1)] := hl
  have L4 : ∀ (n4 : Nat) (x2 : Int32) (x3 : Int32) (H : Heap) (locs : List Loc) (ls : Array Slot) (hw : w_X9_so_B4 post f_sights f_sight p1 n4 x2 x3) (hP : va_P D vwCl (cw_X9_so cI h h_sight g_book g_now g_places g_power g_spite g_ways g_milky g_signs g_pad g_offAt g_offWho g_reason g_acts g_enough g_rows g_counts g_pours g_image g_isKept f_sights f_sight) H) (hD : va_D A (cw_X9_so cI h h_sight g_book g_now g_places g_power g_spite g_ways g_milky g_signs g_pad g_offAt g_offWho g_reason g_acts g_enough g_rows g_counts g_pours g_image g_isKept f_sights f_sight)) (hS : va_S A s.heap H locs) (hl : lv_has ls 4 [(0, .ref h), (1, .int p1), (2, .int x2), (3, .int x3)]), W p l e (headSpec v_X9_so ({ frames := 2, cells := 0, slots := 0, locals := 45 } : Room)).room s m (([.ref h, .int p1] : List Value).toArray) below meth c H locs 0 0 (MQ below (q_X9_so D cI h h_sight g_book g_now g_places g_power g_spite g_ways g_milky g_signs g_pad g_offAt g_offWho g_reason g_acts g_enough g_rows g_counts g_pours g_image g_isKept post f_sights f_sight A) (([.ref h, .int p1] : List Value).toArray) s 0 0 A) (F0 m 4 ls []) := by
    intro n4
    induction n4 with
    | zero => intro x2 x3 H locs ls hw; exact False.elim hw
    | succ n4 ih4 =>
      intro x2 x3 H locs ls hw hP hD hS hl
      unfold w_X9_so_B4 at hw
      refine lv_iload_n hx hb dX9_so_4 rfl (lv_at hl 3 rfl) ?_
      refine lv_bipush (v := (100 : Int32)) hx hb dX9_so_5 (by decide) ?_
      refine lv_icmp_ge (tgt := 34) hx hb dX9_so_7 (by decide) (fun c7 => ?_) (fun c7 => ?_)
      · have hw := hw.1 c7
        refine lv_iload_n hx hb dX9_so_34 rfl (lv_at hl 1 rfl) ?_
        refine lv_iconst (v := (-1 : Int32)) hx hb dX9_so_35 (by decide) ?_
        refine lv_icmp_ne (tgt := 43) hx hb dX9_so_36 (by decide) (fun c36 => ?_) (fun c36 => ?_)
        · have hw := hw.2 c36
          refine lv_bipush (v := (-6 : Int32)) hx hb dX9_so_43 (by decide) ?_
          exact z_iret hx hb hr hlocks () hw hP hS dX9_so_45
        have hw := hw.1 c36
        refine lv_iload_n hx hb dX9_so_39 rfl (lv_at hl 2 rfl) ?_
        refine lv_goto (tgt := 45) hx hb dX9_so_40 (by decide) ?_
        exact z_iret hx hb hr hlocks () hw hP hS dX9_so_45
      have hw := hw.2 c7
      refine lv_aload_n hx hb dX9_so_10 rfl (lv_at hl 0 rfl) ?_
      refine lv_iload_n hx hb dX9_so_11 rfl (lv_at hl 3 rfl) ?_
      refine z_ri (z_runV (As := [.int x3]) (rest := []) hF (c_X9_isFit l D cI cC cZ h h_sight g_book g_now g_places g_power g_spite g_ways g_milky g_signs g_pad g_offAt g_offWho g_reason g_acts g_enough g_rows g_counts g_pours g_image g_isKept f_sights f_sight x3 _ _ hw) (cwV 1 hz (z_gV z4_156 z4_158 zp_35 z1_10 z4_159) rfl rfl rfl hd_X9_isFit ⟨Nat.le_of_ble_eq_true rfl, Nat.le_of_ble_eq_true rfl⟩) hK hP hD [0, 1] rfl rfl 0 9 rfl rfl rfl rfl hl.1 rfl (Nat.le_of_ble_eq_true rfl) dX9_so_12 ⟨Nat.zero_le _, Nat.zero_le _⟩) hP hD hS hA [0, 1] rfl (fun _ => rfl) (fun _ => cw_X9_so cI h h_sight g_book g_now g_places g_power g_spite g_ways g_milky g_signs g_pad g_offAt g_offWho g_reason g_acts g_enough g_rows g_counts g_pours g_image g_isKept f_sights f_sight) (fun _ => rfl) (fun r12 u12 H locs hw hP hD hS => ?_)
      obtain ⟨hn12, hw⟩ := hw
      try dsimp only at hw
      refine lv_if_eq (tgt := 28) hx hb dX9_so_15 (by decide) (fun c15 => ?_) (fun c15 => ?_)
      · have hw := hw.1 c15
        refine lv_iinc (k := 3) (v := (x3 + 1)) (lv' := [(3, .int (x3 + 1)), (0, .ref h), (1, .int p1), (2, .int x2)]) hx hb dX9_so_28 hl rfl rfl (by decide) rfl (fun ls hl => ?_)
        refine lv_goto (tgt := 4) hx hb dX9_so_31 (by decide) ?_
        exact ih4 x2 (x3 + 1) _ _ _ hw hP hD hS (lv_sub hl [1, 2, 3, 0] rfl)
      have hw := hw.2 c15
      refine lv_iload_n hx hb dX9_so_18 rfl (lv_at hl 2 rfl) ?_
      refine lv_iload_n hx hb dX9_so_19 rfl (lv_at hl 1 rfl) ?_
      refine lv_icmp_ne (tgt := 25) hx hb dX9_so_20 (by decide) (fun c20 => ?_) (fun c20 => ?_)
      · have hw := hw.2 c20
        refine lv_iinc (k := 2) (v := (x2 + 1)) (lv' := [(2, .int (x2 + 1)), (0, .ref h), (1, .int p1), (3, .int x3)]) hx hb dX9_so_25 hl rfl rfl (by decide) rfl (fun ls hl => ?_)
        refine lv_iinc (k := 3) (v := (x3 + 1)) (lv' := [(3, .int (x3 + 1)), (2, .int (x2 + 1)), (0, .ref h), (1, .int p1)]) hx hb dX9_so_28 hl rfl rfl (by decide) rfl (fun ls hl => ?_)
        refine lv_goto (tgt := 4) hx hb dX9_so_31 (by decide) ?_
        exact ih4 (x2 + 1) (x3 + 1) _ _ _ hw hP hD hS (lv_sub hl [2, 3, 1, 0] rfl)
      have hw := hw.1 c20
      refine lv_iload_n hx hb dX9_so_23 rfl (lv_at hl 3 rfl) ?_
      exact z_iret hx hb hr hlocks () hw hP hS dX9_so_24
  unfold w_X9_so at hw
  refine lv_iconst (v := (0 : Int32)) hx hb dX9_so_0 (by decide) ?_
  refine lv_istore_n (lv' := [(2, .int (0 : Int32)), (0, .ref h), (1, .int p1)]) hx hb dX9_so_1 rfl hl (by decide) rfl (fun ls hl => ?_)
  refine lv_iconst (v := (0 : Int32)) hx hb dX9_so_2 (by decide) ?_
  refine lv_istore_n (lv' := [(3, .int (0 : Int32)), (2, .int (0 : Int32)), (0, .ref h), (1, .int p1)]) hx hb dX9_so_3 rfl hl (by decide) rfl (fun ls hl => ?_)
  obtain ⟨n4, hw⟩ := hw
  exact L4 n4 (0 : Int32) (0 : Int32) _ _ _ hw hP hD hS (lv_sub hl [2, 3, 1, 0] rfl)
abbrev cw_X9_ask (cI : ClassId) (h h_sight h_counts : Nat) (g_book g_now g_places g_power g_spite g_ways g_milky g_signs g_pad g_offAt g_offWho g_reason g_acts g_enough g_rows g_pours g_image g_isKept : Value) (f_sights : Int32) (f_sight : Nat → Int32) (f_counts : Nat → Int32) : va_W := [(h, .inr (9, [g_book, g_now, g_places, g_power, g_spite, g_ways, g_milky, .int f_sights, .ref h_sight, g_signs, g_pad, g_offAt, g_offWho, g_reason, g_acts, g_enough, g_rows, .ref h_counts, g_pours, g_image, g_isKept])), (h_sight, .inl (cI, 24, .inl f_sight)), (h_counts, .inl (cI, 100, .inl f_counts))]
abbrev q_X9_ask (D : va_G) (cI : ClassId) (h h_sight h_counts : Nat) (g_book g_now g_places g_power g_spite g_ways g_milky g_signs g_pad g_offAt g_offWho g_reason g_acts g_enough g_rows g_pours g_image g_isKept : Value) (post : Int32 → (Nat → Int32) → Prop) (f_sights : Int32) (f_sight : Nat → Int32) (A : Nat → Prop) : Array Value → State → Outcome → State → Prop := va_Qi (S := (Nat → Int32)) (fun r u => post r u) (fun u t => va_P D vwCl (cw_X9_ask cI h h_sight h_counts g_book g_now g_places g_power g_spite g_ways g_milky g_signs g_pad g_offAt g_offWho g_reason g_acts g_enough g_rows g_pours g_image g_isKept f_sights f_sight u) t.heap) A
abbrev v_X9_ask : List Cond := .code yX9_ask cX9_ask 9 (some .int) :: zB
theorem hd_X9_ask : yX9_ask.cls = RX9 ∧ yX9_ask.cls ≠ "java/lang/invoke/MethodHandle" ∧ yX9_ask.cls ≠ "java/lang/invoke/VarHandle" ∧ (parseMethodDescriptor yX9_ask.desc).map (fun d => d.parameters.length) = some 1 := by decide +kernel
set_option maxHeartbeats 4000000 in
set_option maxRecDepth 100000 in
theorem c_X9_ask (l : Launch) (D : va_G) (cI cC cZ : ClassId) (h h_sight h_counts : Nat) (g_book g_now g_places g_power g_spite g_ways g_milky g_signs g_pad g_offAt g_offWho g_reason g_acts g_enough g_rows g_pours g_image g_isKept : Value) (f_sights : Int32) (f_sight : Nat → Int32) (f_counts : Nat → Int32) (p1 : Int32) (sz : Nat) (post : Int32 → (Nat → Int32) → Prop) (hw : w_X9_ask post f_sights f_sight f_counts p1) : Met l yX9_ask v_X9_ask ({ frames := 2, cells := 0, slots := 0, locals := 45 } : Room) (va_Pc [.ref h, .int p1] (zPre D (zT cI cC cZ) sz (cw_X9_ask cI h h_sight h_counts g_book g_now g_places g_power g_spite g_ways g_milky g_signs g_pad g_offAt g_offWho g_reason g_acts g_enough g_rows g_pours g_image g_isKept f_sights f_sight f_counts))) (q_X9_ask D cI h h_sight h_counts g_book g_now g_places g_power g_spite g_ways g_milky g_signs g_pad g_offAt g_offWho g_reason g_acts g_enough g_rows g_pours g_image g_isKept post f_sights f_sight (va_A (cw_X9_ask cI h h_sight h_counts g_book g_now g_places g_power g_spite g_ways g_milky g_signs g_pad g_offAt g_offWho g_reason g_acts g_enough g_rows g_pours g_image g_isKept f_sights f_sight f_counts) sz)) 0 0 (va_A (cw_X9_ask cI h h_sight h_counts g_book g_now g_places g_power g_spite g_ways g_milky g_signs g_pad g_offAt g_offWho g_reason g_acts g_enough g_rows g_pours g_image g_isKept f_sights f_sight f_counts) sz) := by
  refine Met.ofW (cc := cX9_ask) (maxL := 9) (ret := (some .int)) (by decide) rfl ?_
  intro p e s m args below meth c s₁ B hml hv
  obtain ⟨rfl, hsz, hP, hK, hD0⟩ := hv
  subst hsz
  have hx := B.exec
  have hb := B.bytes
  have hr := B.returns
  have hz : ∀ w ∈ zB, w.before _ s = true := fun w h => atoms_spec (ws := v_X9_ask) B.pre w (List.mem_cons_of_mem _ h)
  have hown : s.vm.findClass RX9 = some m.cls := findClass_of_methodNamed B.named
  have hlocks := B.notSynchronized
  have hF : CallFix p m c cX9_ask 9 s (([.ref h, .int p1] : List Value).toArray) zB RX9 := ⟨hx, hb, hml, hown, hz⟩
  have hD := hD0.self (sz := s.heap.size)
  generalize hAe : va_A (cw_X9_ask cI h h_sight h_counts g_book g_now g_places g_power g_spite g_ways g_milky g_signs g_pad g_offAt g_offWho g_reason g_acts g_enough g_rows g_pours g_image g_isKept f_sights f_sight f_counts) s.heap.size = A at hD ⊢
  have hA : ∀ q : Nat, s.heap.size ≤ q → A q := fun q h => by rw [← hAe]; exact Or.inr h
  have hS : va_S A s.heap s.heap [] := va_S.rf
  have hP : va_P D vwCl (cw_X9_ask cI h h_sight h_counts g_book g_now g_places g_power g_spite g_ways g_milky g_signs g_pad g_offAt g_offWho g_reason g_acts g_enough g_rows g_pours g_image g_isKept f_sights f_sight f_counts) s.heap := hP
  have hl := lv_entry ([.ref h, .int p1]) (n := 9) (Nat.le_of_ble_eq_true rfl)
  rw [lg_entry_eq]
  generalize (lg_sl ([.ref h, .int p1]) ++ List.replicate (9 - (lg_sl ([.ref h, .int p1])).length) Slot.unset).toArray = ls at hl ⊢
  have hl : lv_has ls 9 [(0, .ref h), (1, .int p1)] := hl
  have J204 : ∀ (f_counts : Nat → Int32) (x2 : Int32) (H : Heap) (locs : List Loc) (ls : Array Slot) (hw : w_X9_ask_B204 post f_sights f_sight p1 f_counts x2) (hP : va_P D vwCl (cw_X9_ask cI h h_sight h_counts g_book g_now g_places g_power g_spite g_ways g_milky g_signs g_pad g_offAt g_offWho g_reason g_acts g_enough g_rows g_pours g_image g_isKept f_sights f_sight f_counts) H) (hD : va_D A (cw_X9_ask cI h h_sight h_counts g_book g_now g_places g_power g_spite g_ways g_milky g_signs g_pad g_offAt g_offWho g_reason g_acts g_enough g_rows g_pours g_image g_isKept f_sights f_sight f_counts)) (hS : va_S A s.heap H locs) (hl : lv_has ls 9 [(2, .int x2)]), W p l e (headSpec v_X9_ask ({ frames := 2, cells := 0, slots := 0, locals := 45 } : Room)).room s m (([.ref h, .int p1] : List Value).toArray) below meth c H locs 0 0 (MQ below (q_X9_ask D cI h h_sight h_counts g_book g_now g_places g_power g_spite g_ways g_milky g_signs g_pad g_offAt g_offWho g_reason g_acts g_enough g_rows g_pours g_image g_isKept post f_sights f_sight A) (([.ref h, .int p1] : List Value).toArray) s 0 0 A) (F0 m 204 ls []) := by
    intro f_counts x2 H locs ls hw hP hD hS hl
    unfold w_X9_ask_B204 at hw
    refine lv_iload_n hx hb dX9_ask_204 rfl (lv_at hl 0 rfl) ?_
    refine lv_goto (tgt := 209) hx hb dX9_ask_205 (by decide) ?_
    exact z_iret hx hb hr hlocks f_counts hw hP hS dX9_ask_209
  have L21 : ∀ (n21 : Nat) (f_counts : Nat → Int32) (x2 : Int32) (x3 : Int32) (x4 : Int32) (H : Heap) (locs : List Loc) (ls : Array Slot) (hw : w_X9_ask_B21 post f_sights f_sight p1 n21 f_counts x2 x3 x4) (hP : va_P D vwCl (cw_X9_ask cI h h_sight h_counts g_book g_now g_places g_power g_spite g_ways g_milky g_signs g_pad g_offAt g_offWho g_reason g_acts g_enough g_rows g_pours g_image g_isKept f_sights f_sight f_counts) H) (hD : va_D A (cw_X9_ask cI h h_sight h_counts g_book g_now g_places g_power g_spite g_ways g_milky g_signs g_pad g_offAt g_offWho g_reason g_acts g_enough g_rows g_pours g_image g_isKept f_sights f_sight f_counts)) (hS : va_S A s.heap H locs) (hl : lv_has ls 9 [(0, .ref h), (1, .int p1), (2, .int x2), (3, .int x3), (4, .int x4)]), W p l e (headSpec v_X9_ask ({ frames := 2, cells := 0, slots := 0, locals := 45 } : Room)).room s m (([.ref h, .int p1] : List Value).toArray) below meth c H locs 0 0 (MQ below (q_X9_ask D cI h h_sight h_counts g_book g_now g_places g_power g_spite g_ways g_milky g_signs g_pad g_offAt g_offWho g_reason g_acts g_enough g_rows g_pours g_image g_isKept post f_sights f_sight A) (([.ref h, .int p1] : List Value).toArray) s 0 0 A) (F0 m 21 ls []) := by
    intro n21
    induction n21 with
    | zero => intro f_counts x2 x3 x4 H locs ls hw; exact False.elim hw
    | succ n21 ih21 =>
      have L30 : ∀ (n30 : Nat) (f_counts : Nat → Int32) (x2 : Int32) (x3 : Int32) (x4 : Int32) (x5 : Int32) (H : Heap) (locs : List Loc) (ls : Array Slot) (hw : w_X9_ask_B30 post f_sights f_sight p1 (fun f_counts x2 x3 x4 => w_X9_ask_B21 post f_sights f_sight p1 n21 f_counts x2 x3 x4) n30 f_counts x2 x3 x4 x5) (hP : va_P D vwCl (cw_X9_ask cI h h_sight h_counts g_book g_now g_places g_power g_spite g_ways g_milky g_signs g_pad g_offAt g_offWho g_reason g_acts g_enough g_rows g_pours g_image g_isKept f_sights f_sight f_counts) H) (hD : va_D A (cw_X9_ask cI h h_sight h_counts g_book g_now g_places g_power g_spite g_ways g_milky g_signs g_pad g_offAt g_offWho g_reason g_acts g_enough g_rows g_pours g_image g_isKept f_sights f_sight f_counts)) (hS : va_S A s.heap H locs) (hl : lv_has ls 9 [(0, .ref h), (1, .int p1), (2, .int x2), (3, .int x3), (4, .int x4), (5, .int x5)]), W p l e (headSpec v_X9_ask ({ frames := 2, cells := 0, slots := 0, locals := 45 } : Room)).room s m (([.ref h, .int p1] : List Value).toArray) below meth c H locs 0 0 (MQ below (q_X9_ask D cI h h_sight h_counts g_book g_now g_places g_power g_spite g_ways g_milky g_signs g_pad g_offAt g_offWho g_reason g_acts g_enough g_rows g_pours g_image g_isKept post f_sights f_sight A) (([.ref h, .int p1] : List Value).toArray) s 0 0 A) (F0 m 30 ls []) := by
        intro n30
        induction n30 with
        | zero => intro f_counts x2 x3 x4 x5 H locs ls hw; exact False.elim hw
        | succ n30 ih30 =>
          have J183 : ∀ (f_counts : Nat → Int32) (x2 : Int32) (x4 : Int32) (x5 : Int32) (s0 : Int32) (H : Heap) (locs : List Loc) (ls : Array Slot) (hw : w_X9_ask_B183 post f_sights f_sight p1 (fun f_counts x2 x3 x4 => w_X9_ask_B21 post f_sights f_sight p1 n21 f_counts x2 x3 x4) (fun f_counts x2 x3 x4 x5 => w_X9_ask_B30 post f_sights f_sight p1 (fun f_counts x2 x3 x4 => w_X9_ask_B21 post f_sights f_sight p1 n21 f_counts x2 x3 x4) n30 f_counts x2 x3 x4 x5) f_counts x2 x4 x5 s0) (hP : va_P D vwCl (cw_X9_ask cI h h_sight h_counts g_book g_now g_places g_power g_spite g_ways g_milky g_signs g_pad g_offAt g_offWho g_reason g_acts g_enough g_rows g_pours g_image g_isKept f_sights f_sight f_counts) H) (hD : va_D A (cw_X9_ask cI h h_sight h_counts g_book g_now g_places g_power g_spite g_ways g_milky g_signs g_pad g_offAt g_offWho g_reason g_acts g_enough g_rows g_pours g_image g_isKept f_sights f_sight f_counts)) (hS : va_S A s.heap H locs) (hl : lv_has ls 9 [(0, .ref h), (1, .int p1), (2, .int x2), (4, .int x4), (5, .int x5)]), W p l e (headSpec v_X9_ask ({ frames := 2, cells := 0, slots := 0, locals := 45 } : Room)).room s m (([.ref h, .int p1] : List Value).toArray) below meth c H locs 0 0 (MQ below (q_X9_ask D cI h h_sight h_counts g_book g_now g_places g_power g_spite g_ways g_milky g_signs g_pad g_offAt g_offWho g_reason g_acts g_enough g_rows g_pours g_image g_isKept post f_sights f_sight A) (([.ref h, .int p1] : List Value).toArray) s 0 0 A) (F0 m 183 ls [.int s0]) := by
            intro f_counts x2 x4 x5 s0 H locs ls hw hP hD hS hl
            unfold w_X9_ask_B183 at hw
            refine lv_istore_n (lv' := [(3, .int s0), (0, .ref h), (1, .int p1), (2, .int x2), (4, .int x4), (5, .int x5)]) hx hb dX9_ask_183 rfl hl (by decide) rfl (fun ls hl => ?_)
            refine lv_iinc (k := 5) (v := (x5 + 1)) (lv' := [(5, .int (x5 + 1)), (3, .int s0), (0, .ref h), (1, .int p1), (2, .int x2), (4, .int x4)]) hx hb dX9_ask_184 hl rfl rfl (by decide) rfl (fun ls hl => ?_)
            refine lv_goto (tgt := 30) hx hb dX9_ask_187 (by decide) ?_
            exact ih30 f_counts x2 s0 x4 (x5 + 1) _ _ _ hw hP hD hS (lv_sub hl [2, 3, 4, 1, 5, 0] rfl)
          have J171 : ∀ (f_counts : Nat → Int32) (x3 : Int32) (x4 : Int32) (x5 : Int32) (x6 : Int32) (x7 : Int32) (s0 : Int32) (H : Heap) (locs : List Loc) (ls : Array Slot) (hw : w_X9_ask_B171 post f_sights f_sight p1 (fun f_counts x2 x3 x4 => w_X9_ask_B21 post f_sights f_sight p1 n21 f_counts x2 x3 x4) (fun f_counts x2 x3 x4 x5 => w_X9_ask_B30 post f_sights f_sight p1 (fun f_counts x2 x3 x4 => w_X9_ask_B21 post f_sights f_sight p1 n21 f_counts x2 x3 x4) n30 f_counts x2 x3 x4 x5) f_counts x3 x4 x5 x6 x7 s0) (hP : va_P D vwCl (cw_X9_ask cI h h_sight h_counts g_book g_now g_places g_power g_spite g_ways g_milky g_signs g_pad g_offAt g_offWho g_reason g_acts g_enough g_rows g_pours g_image g_isKept f_sights f_sight f_counts) H) (hD : va_D A (cw_X9_ask cI h h_sight h_counts g_book g_now g_places g_power g_spite g_ways g_milky g_signs g_pad g_offAt g_offWho g_reason g_acts g_enough g_rows g_pours g_image g_isKept f_sights f_sight f_counts)) (hS : va_S A s.heap H locs) (hl : lv_has ls 9 [(0, .ref h), (1, .int p1), (3, .int x3), (4, .int x4), (5, .int x5), (6, .int x6), (7, .int x7)]), W p l e (headSpec v_X9_ask ({ frames := 2, cells := 0, slots := 0, locals := 45 } : Room)).room s m (([.ref h, .int p1] : List Value).toArray) below meth c H locs 0 0 (MQ below (q_X9_ask D cI h h_sight h_counts g_book g_now g_places g_power g_spite g_ways g_milky g_signs g_pad g_offAt g_offWho g_reason g_acts g_enough g_rows g_pours g_image g_isKept post f_sights f_sight A) (([.ref h, .int p1] : List Value).toArray) s 0 0 A) (F0 m 171 ls [.int s0]) := by
            intro f_counts x3 x4 x5 x6 x7 s0 H locs ls hw hP hD hS hl
            unfold w_X9_ask_B171 at hw
            refine lv_istore_n (lv' := [(2, .int s0), (0, .ref h), (1, .int p1), (3, .int x3), (4, .int x4), (5, .int x5), (6, .int x6), (7, .int x7)]) hx hb dX9_ask_171 rfl hl (by decide) rfl (fun ls hl => ?_)
            refine lv_iload hx hb dX9_ask_172 (lv_at hl 7 rfl) ?_
            refine lv_if_eq (tgt := 182) hx hb dX9_ask_174 (by decide) (fun c174 => ?_) (fun c174 => ?_)
            · have hw := hw.1 c174
              refine lv_iload_n hx hb dX9_ask_182 rfl (lv_at hl 3 rfl) ?_
              exact J183 f_counts s0 x4 x5 x3 _ _ _ hw hP hD hS (lv_sub hl [1, 2, 0, 4, 5] rfl)
            have hw := hw.2 c174
            refine lv_iload hx hb dX9_ask_177 (lv_at hl 6 rfl) ?_
            refine lv_goto (tgt := 183) hx hb dX9_ask_179 (by decide) ?_
            exact J183 f_counts s0 x4 x5 x6 _ _ _ hw hP hD hS (lv_sub hl [1, 2, 0, 4, 5] rfl)
          have J152 : ∀ (f_counts : Nat → Int32) (x2 : Int32) (x3 : Int32) (x4 : Int32) (x5 : Int32) (x6 : Int32) (s0 : Int32) (H : Heap) (locs : List Loc) (ls : Array Slot) (hw : w_X9_ask_B152 post f_sights f_sight p1 (fun f_counts x2 x3 x4 => w_X9_ask_B21 post f_sights f_sight p1 n21 f_counts x2 x3 x4) (fun f_counts x2 x3 x4 x5 => w_X9_ask_B30 post f_sights f_sight p1 (fun f_counts x2 x3 x4 => w_X9_ask_B21 post f_sights f_sight p1 n21 f_counts x2 x3 x4) n30 f_counts x2 x3 x4 x5) f_counts x2 x3 x4 x5 x6 s0) (hP : va_P D vwCl (cw_X9_ask cI h h_sight h_counts g_book g_now g_places g_power g_spite g_ways g_milky g_signs g_pad g_offAt g_offWho g_reason g_acts g_enough g_rows g_pours g_image g_isKept f_sights f_sight f_counts) H) (hD : va_D A (cw_X9_ask cI h h_sight h_counts g_book g_now g_places g_power g_spite g_ways g_milky g_signs g_pad g_offAt g_offWho g_reason g_acts g_enough g_rows g_pours g_image g_isKept f_sights f_sight f_counts)) (hS : va_S A s.heap H locs) (hl : lv_has ls 9 [(0, .ref h), (1, .int p1), (2, .int x2), (3, .int x3), (4, .int x4), (5, .int x5), (6, .int x6)]), W p l e (headSpec v_X9_ask ({ frames := 2, cells := 0, slots := 0, locals := 45 } : Room)).room s m (([.ref h, .int p1] : List Value).toArray) below meth c H locs 0 0 (MQ below (q_X9_ask D cI h h_sight h_counts g_book g_now g_places g_power g_spite g_ways g_milky g_signs g_pad g_offAt g_offWho g_reason g_acts g_enough g_rows g_pours g_image g_isKept post f_sights f_sight A) (([.ref h, .int p1] : List Value).toArray) s 0 0 A) (F0 m 152 ls [.int s0]) := by
            intro f_counts x2 x3 x4 x5 x6 s0 H locs ls hw hP hD hS hl
            unfold w_X9_ask_B152 at hw
            refine lv_istore (lv' := [(7, .int s0), (0, .ref h), (1, .int p1), (2, .int x2), (3, .int x3), (4, .int x4), (5, .int x5), (6, .int x6)]) hx hb dX9_ask_152 hl (by decide) rfl (fun ls hl => ?_)
            refine lv_iload hx hb dX9_ask_154 (lv_at hl 0 rfl) ?_
            refine lv_if_eq (tgt := 170) hx hb dX9_ask_156 (by decide) (fun c156 => ?_) (fun c156 => ?_)
            · have hw := hw.1 c156
              refine lv_iload_n hx hb dX9_ask_170 rfl (lv_at hl 3 rfl) ?_
              exact J171 f_counts x3 x4 x5 x6 s0 x2 _ _ _ hw hP hD hS (lv_sub hl [1, 2, 4, 5, 6, 7, 0] rfl)
            have hw := hw.2 c156
            refine lv_bipush (v := (10 : Int32)) hx hb dX9_ask_159 (by decide) ?_
            refine lv_iload hx hb dX9_ask_161 (lv_at hl 5 rfl) ?_
            refine lv_imul hx hb dX9_ask_163 ?_
            refine lv_iload hx hb dX9_ask_164 (lv_at hl 6 rfl) ?_
            refine lv_iadd hx hb dX9_ask_166 ?_
            refine lv_goto (tgt := 171) hx hb dX9_ask_167 (by decide) ?_
            exact J171 f_counts x3 x4 x5 x6 s0 (((10 : Int32) * x4) + x5) _ _ _ hw hP hD hS (lv_sub hl [1, 2, 4, 5, 6, 7, 0] rfl)
          have J151 : ∀ (f_counts : Nat → Int32) (x2 : Int32) (x3 : Int32) (x4 : Int32) (x5 : Int32) (x6 : Int32) (H : Heap) (locs : List Loc) (ls : Array Slot) (hw : w_X9_ask_B151 post f_sights f_sight p1 (fun f_counts x2 x3 x4 => w_X9_ask_B21 post f_sights f_sight p1 n21 f_counts x2 x3 x4) (fun f_counts x2 x3 x4 x5 => w_X9_ask_B30 post f_sights f_sight p1 (fun f_counts x2 x3 x4 => w_X9_ask_B21 post f_sights f_sight p1 n21 f_counts x2 x3 x4) n30 f_counts x2 x3 x4 x5) f_counts x2 x3 x4 x5 x6) (hP : va_P D vwCl (cw_X9_ask cI h h_sight h_counts g_book g_now g_places g_power g_spite g_ways g_milky g_signs g_pad g_offAt g_offWho g_reason g_acts g_enough g_rows g_pours g_image g_isKept f_sights f_sight f_counts) H) (hD : va_D A (cw_X9_ask cI h h_sight h_counts g_book g_now g_places g_power g_spite g_ways g_milky g_signs g_pad g_offAt g_offWho g_reason g_acts g_enough g_rows g_pours g_image g_isKept f_sights f_sight f_counts)) (hS : va_S A s.heap H locs) (hl : lv_has ls 9 [(0, .ref h), (1, .int p1), (2, .int x2), (3, .int x3), (4, .int x4), (5, .int x5), (6, .int x6)]), W p l e (headSpec v_X9_ask ({ frames := 2, cells := 0, slots := 0, locals := 45 } : Room)).room s m (([.ref h, .int p1] : List Value).toArray) below meth c H locs 0 0 (MQ below (q_X9_ask D cI h h_sight h_counts g_book g_now g_places g_power g_spite g_ways g_milky g_signs g_pad g_offAt g_offWho g_reason g_acts g_enough g_rows g_pours g_image g_isKept post f_sights f_sight A) (([.ref h, .int p1] : List Value).toArray) s 0 0 A) (F0 m 151 ls []) := by
            intro f_counts x2 x3 x4 x5 x6 H locs ls hw hP hD hS hl
            unfold w_X9_ask_B151 at hw
            refine lv_iconst (v := (0 : Int32)) hx hb dX9_ask_151 (by decide) ?_
            exact J152 f_counts x2 x3 x4 x5 x6 (0 : Int32) _ _ _ hw hP hD hS (lv_sub hl [0, 1, 2, 3, 4, 5, 6] rfl)
          have L66 : ∀ (n66 : Nat) (f_counts : Nat → Int32) (x2 : Int32) (x3 : Int32) (x4 : Int32) (x5 : Int32) (x6 : Int32) (x7 : Int32) (H : Heap) (locs : List Loc) (ls : Array Slot) (hw : w_X9_ask_B66 post f_sights f_sight p1 (fun f_counts x2 x3 x4 => w_X9_ask_B21 post f_sights f_sight p1 n21 f_counts x2 x3 x4) (fun f_counts x2 x3 x4 x5 => w_X9_ask_B30 post f_sights f_sight p1 (fun f_counts x2 x3 x4 => w_X9_ask_B21 post f_sights f_sight p1 n21 f_counts x2 x3 x4) n30 f_counts x2 x3 x4 x5) n66 f_counts x2 x3 x4 x5 x6 x7) (hP : va_P D vwCl (cw_X9_ask cI h h_sight h_counts g_book g_now g_places g_power g_spite g_ways g_milky g_signs g_pad g_offAt g_offWho g_reason g_acts g_enough g_rows g_pours g_image g_isKept f_sights f_sight f_counts) H) (hD : va_D A (cw_X9_ask cI h h_sight h_counts g_book g_now g_places g_power g_spite g_ways g_milky g_signs g_pad g_offAt g_offWho g_reason g_acts g_enough g_rows g_pours g_image g_isKept f_sights f_sight f_counts)) (hS : va_S A s.heap H locs) (hl : lv_has ls 9 [(0, .ref h), (1, .int p1), (2, .int x2), (3, .int x3), (4, .int x4), (5, .int x5), (6, .int x6), (7, .int x7)]), W p l e (headSpec v_X9_ask ({ frames := 2, cells := 0, slots := 0, locals := 45 } : Room)).room s m (([.ref h, .int p1] : List Value).toArray) below meth c H locs 0 0 (MQ below (q_X9_ask D cI h h_sight h_counts g_book g_now g_places g_power g_spite g_ways g_milky g_signs g_pad g_offAt g_offWho g_reason g_acts g_enough g_rows g_pours g_image g_isKept post f_sights f_sight A) (([.ref h, .int p1] : List Value).toArray) s 0 0 A) (F0 m 66 ls []) := by
            intro n66
            induction n66 with
            | zero => intro f_counts x2 x3 x4 x5 x6 x7 H locs ls hw; exact False.elim hw
            | succ n66 ih66 =>
              have J128 : ∀ (f_counts : Nat → Int32) (x2 : Int32) (x3 : Int32) (x4 : Int32) (x5 : Int32) (x7 : Int32) (s0 : Int32) (H : Heap) (locs : List Loc) (ls : Array Slot) (hw : w_X9_ask_B128 post f_sights f_sight p1 (fun f_counts x2 x3 x4 => w_X9_ask_B21 post f_sights f_sight p1 n21 f_counts x2 x3 x4) (fun f_counts x2 x3 x4 x5 => w_X9_ask_B30 post f_sights f_sight p1 (fun f_counts x2 x3 x4 => w_X9_ask_B21 post f_sights f_sight p1 n21 f_counts x2 x3 x4) n30 f_counts x2 x3 x4 x5) (fun f_counts x2 x3 x4 x5 x6 x7 => w_X9_ask_B66 post f_sights f_sight p1 (fun f_counts x2 x3 x4 => w_X9_ask_B21 post f_sights f_sight p1 n21 f_counts x2 x3 x4) (fun f_counts x2 x3 x4 x5 => w_X9_ask_B30 post f_sights f_sight p1 (fun f_counts x2 x3 x4 => w_X9_ask_B21 post f_sights f_sight p1 n21 f_counts x2 x3 x4) n30 f_counts x2 x3 x4 x5) n66 f_counts x2 x3 x4 x5 x6 x7) f_counts x2 x3 x4 x5 x7 s0) (hP : va_P D vwCl (cw_X9_ask cI h h_sight h_counts g_book g_now g_places g_power g_spite g_ways g_milky g_signs g_pad g_offAt g_offWho g_reason g_acts g_enough g_rows g_pours g_image g_isKept f_sights f_sight f_counts) H) (hD : va_D A (cw_X9_ask cI h h_sight h_counts g_book g_now g_places g_power g_spite g_ways g_milky g_signs g_pad g_offAt g_offWho g_reason g_acts g_enough g_rows g_pours g_image g_isKept f_sights f_sight f_counts)) (hS : va_S A s.heap H locs) (hl : lv_has ls 9 [(0, .ref h), (1, .int p1), (2, .int x2), (3, .int x3), (4, .int x4), (5, .int x5), (7, .int x7)]), W p l e (headSpec v_X9_ask ({ frames := 2, cells := 0, slots := 0, locals := 45 } : Room)).room s m (([.ref h, .int p1] : List Value).toArray) below meth c H locs 0 0 (MQ below (q_X9_ask D cI h h_sight h_counts g_book g_now g_places g_power g_spite g_ways g_milky g_signs g_pad g_offAt g_offWho g_reason g_acts g_enough g_rows g_pours g_image g_isKept post f_sights f_sight A) (([.ref h, .int p1] : List Value).toArray) s 0 0 A) (F0 m 128 ls [.int s0]) := by
                intro f_counts x2 x3 x4 x5 x7 s0 H locs ls hw hP hD hS hl
                unfold w_X9_ask_B128 at hw
                refine lv_istore (lv' := [(6, .int s0), (0, .ref h), (1, .int p1), (2, .int x2), (3, .int x3), (4, .int x4), (5, .int x5), (7, .int x7)]) hx hb dX9_ask_128 hl (by decide) rfl (fun ls hl => ?_)
                refine lv_iinc (k := 7) (v := (x7 + 1)) (lv' := [(7, .int (x7 + 1)), (6, .int s0), (0, .ref h), (1, .int p1), (2, .int x2), (3, .int x3), (4, .int x4), (5, .int x5)]) hx hb dX9_ask_130 hl rfl rfl (by decide) rfl (fun ls hl => ?_)
                refine lv_goto (tgt := 66) hx hb dX9_ask_133 (by decide) ?_
                exact ih66 f_counts x2 x3 x4 x5 s0 (x7 + 1) _ _ _ hw hP hD hS (lv_sub hl [2, 3, 4, 5, 6, 7, 1, 0] rfl)
              intro f_counts x2 x3 x4 x5 x6 x7 H locs ls hw hP hD hS hl
              unfold w_X9_ask_B66 at hw
              refine lv_iload hx hb dX9_ask_66 (lv_at hl 7 rfl) ?_
              refine lv_bipush (v := (100 : Int32)) hx hb dX9_ask_68 (by decide) ?_
              refine lv_icmp_ge (tgt := 136) hx hb dX9_ask_70 (by decide) (fun c70 => ?_) (fun c70 => ?_)
              · have hw := hw.1 c70
                refine lv_iload hx hb dX9_ask_136 (lv_at hl 6 rfl) ?_
                refine lv_if_le (tgt := 151) hx hb dX9_ask_138 (by decide) (fun c138 => ?_) (fun c138 => ?_)
                · have hw := hw.1 c138
                  exact J151 f_counts x2 x3 x4 x5 x6 _ _ _ hw hP hD hS (lv_sub hl [0, 1, 2, 3, 4, 5, 6] rfl)
                have hw := hw.2 c138
                refine lv_iload hx hb dX9_ask_141 (lv_at hl 6 rfl) ?_
                refine lv_iload_n hx hb dX9_ask_143 rfl (lv_at hl 3 rfl) ?_
                refine lv_icmp_ge (tgt := 151) hx hb dX9_ask_144 (by decide) (fun c144 => ?_) (fun c144 => ?_)
                · have hw := hw.1 c144
                  exact J151 f_counts x2 x3 x4 x5 x6 _ _ _ hw hP hD hS (lv_sub hl [0, 1, 2, 3, 4, 5, 6] rfl)
                have hw := hw.2 c144
                refine lv_iconst (v := (1 : Int32)) hx hb dX9_ask_147 (by decide) ?_
                refine lv_goto (tgt := 152) hx hb dX9_ask_148 (by decide) ?_
                exact J152 f_counts x2 x3 x4 x5 x6 (1 : Int32) _ _ _ hw hP hD hS (lv_sub hl [0, 1, 2, 3, 4, 5, 6] rfl)
              have hw := hw.2 c70
              refine lv_aload_n hx hb dX9_ask_73 rfl (lv_at hl 0 rfl) ?_
              refine lv_iload hx hb dX9_ask_74 (lv_at hl 7 rfl) ?_
              refine z_ri (z_runV (As := [.int x7]) (rest := []) hF (c_X9_isFit l D cI cC cZ h h_sight g_book g_now g_places g_power g_spite g_ways g_milky g_signs g_pad g_offAt g_offWho g_reason g_acts g_enough g_rows (.ref h_counts) g_pours g_image g_isKept f_sights f_sight x7 _ _ hw) (cwV 1 hz (z_gV z4_156 z4_158 zp_35 z1_10 z4_159) rfl rfl rfl hd_X9_isFit ⟨Nat.le_of_ble_eq_true rfl, Nat.le_of_ble_eq_true rfl⟩) hK hP hD [0, 1] rfl rfl 0 9 rfl rfl rfl rfl hl.1 rfl (Nat.le_of_ble_eq_true rfl) dX9_ask_76 ⟨Nat.zero_le _, Nat.zero_le _⟩) hP hD hS hA [0, 1] rfl (fun _ => rfl) (fun _ => cw_X9_ask cI h h_sight h_counts g_book g_now g_places g_power g_spite g_ways g_milky g_signs g_pad g_offAt g_offWho g_reason g_acts g_enough g_rows g_pours g_image g_isKept f_sights f_sight f_counts) (fun _ => rfl) (fun r76 u76 H locs hw hP hD hS => ?_)
              obtain ⟨hn76, hw⟩ := hw
              try dsimp only at hw
              refine lv_if_eq (tgt := 130) hx hb dX9_ask_79 (by decide) (fun c79 => ?_) (fun c79 => ?_)
              · have hw := hw.1 c79
                refine lv_iinc (k := 7) (v := (x7 + 1)) (lv' := [(7, .int (x7 + 1)), (0, .ref h), (1, .int p1), (2, .int x2), (3, .int x3), (4, .int x4), (5, .int x5), (6, .int x6)]) hx hb dX9_ask_130 hl rfl rfl (by decide) rfl (fun ls hl => ?_)
                refine lv_goto (tgt := 66) hx hb dX9_ask_133 (by decide) ?_
                exact ih66 f_counts x2 x3 x4 x5 x6 (x7 + 1) _ _ _ hw hP hD hS (lv_sub hl [1, 2, 3, 4, 5, 6, 7, 0] rfl)
              have hw := hw.2 c79
              refine lv_iload hx hb dX9_ask_82 (lv_at hl 7 rfl) ?_
              refine lv_iload hx hb dX9_ask_84 (lv_at hl 4 rfl) ?_
              refine lv_iload hx hb dX9_ask_86 (lv_at hl 5 rfl) ?_
              refine z_ri (z_runS (As := [.int x7, .int x4, .int x5]) (rest := []) hF (c_X9_lossOf l D cI cC cZ x7 x4 x5 _ _ hw) (va_cwS 3 hz (z_gS z4_160 z4_161 z1_10 z4_162) rfl rfl rfl hd_X9_lossOf ⟨Nat.le_of_ble_eq_true rfl, Nat.le_of_ble_eq_true rfl⟩) hK hP hD [] rfl rfl rfl hl.1 rfl (Nat.le_of_ble_eq_true rfl) dX9_ask_88 ⟨Nat.zero_le _, Nat.zero_le _⟩) hP hD hS hA [] rfl (fun _ => rfl) (fun _ => cw_X9_ask cI h h_sight h_counts g_book g_now g_places g_power g_spite g_ways g_milky g_signs g_pad g_offAt g_offWho g_reason g_acts g_enough g_rows g_pours g_image g_isKept f_sights f_sight f_counts) (fun _ => rfl) (fun r88 u88 H locs hw hP hD hS => ?_)
              try dsimp only at hw
              refine lv_istore (lv' := [(8, .int r88), (0, .ref h), (1, .int p1), (2, .int x2), (3, .int x3), (4, .int x4), (5, .int x5), (6, .int x6), (7, .int x7)]) hx hb dX9_ask_91 hl (by decide) rfl (fun ls hl => ?_)
              refine lv_aload_n hx hb dX9_ask_93 rfl (lv_at hl 1 rfl) ?_
              refine va_get (D := D) (ci := 9) (v := .ref h_counts) (C := RX9) (T := TX9) (N := 21) hx hb hz hX_X9 hown hK.1 hP 0 rfl rfl 17 (by decide) (hz _ z3_173) (fun _ h9 => h9) rfl dX9_ask_94 ?_
              refine lv_iload hx hb dX9_ask_97 (lv_at hl 0 rfl) ?_
              refine lv_dup2_11 hx hb dX9_ask_99 rfl rfl ?_
              obtain ⟨hi100, hw⟩ := hw
              refine va_iald hx hb hK.1 hP 2 0 rfl rfl hi100 dX9_ask_100 ?_
              refine lv_iconst (v := (1 : Int32)) hx hb dX9_ask_101 (by decide) ?_
              refine lv_iadd hx hb dX9_ask_102 ?_
              obtain ⟨hi103, hw⟩ := hw
              refine va_iast hx hb hK.1 hP hD hS 2 0 rfl rfl hi103 dX9_ask_103 (fun H locs hP hD hS => ?_)
              have hP : va_P D vwCl (cw_X9_ask cI h h_sight h_counts g_book g_now g_places g_power g_spite g_ways g_milky g_signs g_pad g_offAt g_offWho g_reason g_acts g_enough g_rows g_pours g_image g_isKept f_sights f_sight (upd f_counts r88.toNatClampNeg ((f_counts r88.toNatClampNeg) + (1 : Int32)))) H := hP
              have hD : va_D A (cw_X9_ask cI h h_sight h_counts g_book g_now g_places g_power g_spite g_ways g_milky g_signs g_pad g_offAt g_offWho g_reason g_acts g_enough g_rows g_pours g_image g_isKept f_sights f_sight (upd f_counts r88.toNatClampNeg ((f_counts r88.toNatClampNeg) + (1 : Int32)))) := hD
              refine lv_aload_n hx hb dX9_ask_104 rfl (lv_at hl 1 rfl) ?_
              refine va_get (D := D) (ci := 9) (v := .ref h_counts) (C := RX9) (T := TX9) (N := 21) hx hb hz hX_X9 hown hK.1 hP 0 rfl rfl 17 (by decide) (hz _ z3_173) (fun _ h9 => h9) rfl dX9_ask_105 ?_
              refine lv_iload hx hb dX9_ask_108 (lv_at hl 0 rfl) ?_
              obtain ⟨hi110, hw⟩ := hw
              refine va_iald hx hb hK.1 hP 2 0 rfl rfl hi110 dX9_ask_110 ?_
              refine lv_iload hx hb dX9_ask_111 (lv_at hl 7 rfl) ?_
              refine lv_icmp_le (tgt := 126) hx hb dX9_ask_113 (by decide) (fun c113 => ?_) (fun c113 => ?_)
              · have hw := hw.1 c113
                refine lv_iload hx hb dX9_ask_126 (lv_at hl 7 rfl) ?_
                exact J128 (upd f_counts r88.toNatClampNeg ((f_counts r88.toNatClampNeg) + (1 : Int32))) x2 x3 x4 x5 x7 x6 _ _ _ hw hP hD hS (lv_sub hl [1, 2, 3, 4, 5, 6, 8] rfl)
              have hw := hw.2 c113
              refine lv_aload_n hx hb dX9_ask_116 rfl (lv_at hl 1 rfl) ?_
              refine va_get (D := D) (ci := 9) (v := .ref h_counts) (C := RX9) (T := TX9) (N := 21) hx hb hz hX_X9 hown hK.1 hP 0 rfl rfl 17 (by decide) (hz _ z3_173) (fun _ h9 => h9) rfl dX9_ask_117 ?_
              refine lv_iload hx hb dX9_ask_120 (lv_at hl 0 rfl) ?_
              obtain ⟨hi122, hw⟩ := hw
              refine va_iald hx hb hK.1 hP 2 0 rfl rfl hi122 dX9_ask_122 ?_
              refine lv_goto (tgt := 128) hx hb dX9_ask_123 (by decide) ?_
              exact J128 (upd f_counts r88.toNatClampNeg ((f_counts r88.toNatClampNeg) + (1 : Int32))) x2 x3 x4 x5 x7 ((upd f_counts r88.toNatClampNeg ((f_counts r88.toNatClampNeg) + (1 : Int32))) r88.toNatClampNeg) _ _ _ hw hP hD hS (lv_sub hl [1, 2, 3, 4, 5, 6, 8] rfl)
          have L42 : ∀ (n42 : Nat) (f_counts : Nat → Int32) (x2 : Int32) (x3 : Int32) (x4 : Int32) (x5 : Int32) (x6 : Int32) (x7 : Int32) (H : Heap) (locs : List Loc) (ls : Array Slot) (hw : w_X9_ask_B42 post f_sights f_sight p1 (fun f_counts x2 x3 x4 => w_X9_ask_B21 post f_sights f_sight p1 n21 f_counts x2 x3 x4) (fun f_counts x2 x3 x4 x5 => w_X9_ask_B30 post f_sights f_sight p1 (fun f_counts x2 x3 x4 => w_X9_ask_B21 post f_sights f_sight p1 n21 f_counts x2 x3 x4) n30 f_counts x2 x3 x4 x5) n42 f_counts x2 x3 x4 x5 x6 x7) (hP : va_P D vwCl (cw_X9_ask cI h h_sight h_counts g_book g_now g_places g_power g_spite g_ways g_milky g_signs g_pad g_offAt g_offWho g_reason g_acts g_enough g_rows g_pours g_image g_isKept f_sights f_sight f_counts) H) (hD : va_D A (cw_X9_ask cI h h_sight h_counts g_book g_now g_places g_power g_spite g_ways g_milky g_signs g_pad g_offAt g_offWho g_reason g_acts g_enough g_rows g_pours g_image g_isKept f_sights f_sight f_counts)) (hS : va_S A s.heap H locs) (hl : lv_has ls 9 [(0, .ref h), (1, .int p1), (2, .int x2), (3, .int x3), (4, .int x4), (5, .int x5), (6, .int x6), (7, .int x7)]), W p l e (headSpec v_X9_ask ({ frames := 2, cells := 0, slots := 0, locals := 45 } : Room)).room s m (([.ref h, .int p1] : List Value).toArray) below meth c H locs 0 0 (MQ below (q_X9_ask D cI h h_sight h_counts g_book g_now g_places g_power g_spite g_ways g_milky g_signs g_pad g_offAt g_offWho g_reason g_acts g_enough g_rows g_pours g_image g_isKept post f_sights f_sight A) (([.ref h, .int p1] : List Value).toArray) s 0 0 A) (F0 m 42 ls []) := by
            intro n42
            induction n42 with
            | zero => intro f_counts x2 x3 x4 x5 x6 x7 H locs ls hw; exact False.elim hw
            | succ n42 ih42 =>
              intro f_counts x2 x3 x4 x5 x6 x7 H locs ls hw hP hD hS hl
              unfold w_X9_ask_B42 at hw
              refine lv_iload hx hb dX9_ask_42 (lv_at hl 7 rfl) ?_
              refine lv_bipush (v := (100 : Int32)) hx hb dX9_ask_44 (by decide) ?_
              refine lv_icmp_ge (tgt := 63) hx hb dX9_ask_46 (by decide) (fun c46 => ?_) (fun c46 => ?_)
              · have hw := hw.1 c46
                refine lv_iconst (v := (0 : Int32)) hx hb dX9_ask_63 (by decide) ?_
                refine lv_istore (lv' := [(7, .int (0 : Int32)), (0, .ref h), (1, .int p1), (2, .int x2), (3, .int x3), (4, .int x4), (5, .int x5), (6, .int x6)]) hx hb dX9_ask_64 hl (by decide) rfl (fun ls hl => ?_)
                obtain ⟨n66, hw⟩ := hw
                exact L66 n66 f_counts x2 x3 x4 x5 x6 (0 : Int32) _ _ _ hw hP hD hS (lv_sub hl [1, 2, 3, 4, 5, 6, 7, 0] rfl)
              have hw := hw.2 c46
              refine lv_aload_n hx hb dX9_ask_49 rfl (lv_at hl 0 rfl) ?_
              refine va_get (D := D) (ci := 9) (v := .ref h_counts) (C := RX9) (T := TX9) (N := 21) hx hb hz hX_X9 hown hK.1 hP 0 rfl rfl 17 (by decide) (hz _ z3_173) (fun _ h9 => h9) rfl dX9_ask_50 ?_
              refine lv_iload hx hb dX9_ask_53 (lv_at hl 7 rfl) ?_
              refine lv_iconst (v := (0 : Int32)) hx hb dX9_ask_55 (by decide) ?_
              obtain ⟨hi56, hw⟩ := hw
              refine va_iast hx hb hK.1 hP hD hS 2 0 rfl rfl hi56 dX9_ask_56 (fun H locs hP hD hS => ?_)
              have hP : va_P D vwCl (cw_X9_ask cI h h_sight h_counts g_book g_now g_places g_power g_spite g_ways g_milky g_signs g_pad g_offAt g_offWho g_reason g_acts g_enough g_rows g_pours g_image g_isKept f_sights f_sight (upd f_counts x7.toNatClampNeg (0 : Int32))) H := hP
              have hD : va_D A (cw_X9_ask cI h h_sight h_counts g_book g_now g_places g_power g_spite g_ways g_milky g_signs g_pad g_offAt g_offWho g_reason g_acts g_enough g_rows g_pours g_image g_isKept f_sights f_sight (upd f_counts x7.toNatClampNeg (0 : Int32))) := hD
              refine lv_iinc (k := 7) (v := (x7 + 1)) (lv' := [(7, .int (x7 + 1)), (0, .ref h), (1, .int p1), (2, .int x2), (3, .int x3), (4, .int x4), (5, .int x5), (6, .int x6)]) hx hb dX9_ask_57 hl rfl rfl (by decide) rfl (fun ls hl => ?_)
              refine lv_goto (tgt := 42) hx hb dX9_ask_60 (by decide) ?_
              exact ih42 (upd f_counts x7.toNatClampNeg (0 : Int32)) x2 x3 x4 x5 x6 (x7 + 1) _ _ _ hw hP hD hS (lv_sub hl [1, 2, 3, 4, 5, 6, 7, 0] rfl)
          intro f_counts x2 x3 x4 x5 H locs ls hw hP hD hS hl
          unfold w_X9_ask_B30 at hw
          refine lv_iload hx hb dX9_ask_30 (lv_at hl 5 rfl) ?_
          refine lv_iconst (v := (2 : Int32)) hx hb dX9_ask_32 (by decide) ?_
          refine lv_icmp_ge (tgt := 190) hx hb dX9_ask_33 (by decide) (fun c33 => ?_) (fun c33 => ?_)
          · have hw := hw.1 c33
            refine lv_iinc (k := 4) (v := (x4 + 1)) (lv' := [(4, .int (x4 + 1)), (0, .ref h), (1, .int p1), (2, .int x2), (3, .int x3), (5, .int x5)]) hx hb dX9_ask_190 hl rfl rfl (by decide) rfl (fun ls hl => ?_)
            refine lv_goto (tgt := 21) hx hb dX9_ask_193 (by decide) ?_
            exact ih21 f_counts x2 x3 (x4 + 1) _ _ _ hw hP hD hS (lv_sub hl [1, 2, 3, 4, 0] rfl)
          have hw := hw.2 c33
          refine lv_iconst (v := (0 : Int32)) hx hb dX9_ask_36 (by decide) ?_
          refine lv_istore (lv' := [(6, .int (0 : Int32)), (0, .ref h), (1, .int p1), (2, .int x2), (3, .int x3), (4, .int x4), (5, .int x5)]) hx hb dX9_ask_37 hl (by decide) rfl (fun ls hl => ?_)
          refine lv_iconst (v := (0 : Int32)) hx hb dX9_ask_39 (by decide) ?_
          refine lv_istore (lv' := [(7, .int (0 : Int32)), (6, .int (0 : Int32)), (0, .ref h), (1, .int p1), (2, .int x2), (3, .int x3), (4, .int x4), (5, .int x5)]) hx hb dX9_ask_40 hl (by decide) rfl (fun ls hl => ?_)
          obtain ⟨n42, hw⟩ := hw
          exact L42 n42 f_counts x2 x3 x4 x5 (0 : Int32) (0 : Int32) _ _ _ hw hP hD hS (lv_sub hl [2, 3, 4, 5, 6, 7, 1, 0] rfl)
      intro f_counts x2 x3 x4 H locs ls hw hP hD hS hl
      unfold w_X9_ask_B21 at hw
      refine lv_iload hx hb dX9_ask_21 (lv_at hl 4 rfl) ?_
      refine lv_iconst (v := (4 : Int32)) hx hb dX9_ask_23 (by decide) ?_
      refine lv_icmp_ge (tgt := 196) hx hb dX9_ask_24 (by decide) (fun c24 => ?_) (fun c24 => ?_)
      · have hw := hw.1 c24
        refine lv_iload_n hx hb dX9_ask_196 rfl (lv_at hl 2 rfl) ?_
        refine lv_if_lt (tgt := 204) hx hb dX9_ask_197 (by decide) (fun c197 => ?_) (fun c197 => ?_)
        · have hw := hw.1 c197
          exact J204 f_counts x2 _ _ _ hw hP hD hS (lv_sub hl [2] rfl)
        have hw := hw.2 c197
        refine lv_iload_n hx hb dX9_ask_200 rfl (lv_at hl 1 rfl) ?_
        refine lv_if_ne (tgt := 208) hx hb dX9_ask_201 (by decide) (fun c201 => ?_) (fun c201 => ?_)
        · have hw := hw.2 c201
          refine lv_iload_n hx hb dX9_ask_208 rfl (lv_at hl 3 rfl) ?_
          exact z_iret hx hb hr hlocks f_counts hw hP hS dX9_ask_209
        have hw := hw.1 c201
        exact J204 f_counts x2 _ _ _ hw hP hD hS (lv_sub hl [2] rfl)
      have hw := hw.2 c24
      refine lv_iconst (v := (0 : Int32)) hx hb dX9_ask_27 (by decide) ?_
      refine lv_istore (lv' := [(5, .int (0 : Int32)), (0, .ref h), (1, .int p1), (2, .int x2), (3, .int x3), (4, .int x4)]) hx hb dX9_ask_28 hl (by decide) rfl (fun ls hl => ?_)
      obtain ⟨n30, hw⟩ := hw
      exact L30 n30 f_counts x2 x3 x4 (0 : Int32) _ _ _ hw hP hD hS (lv_sub hl [1, 2, 3, 4, 5, 0] rfl)
  unfold w_X9_ask at hw
  refine lv_iload_n hx hb dX9_ask_0 rfl (lv_at hl 1 rfl) ?_
  refine lv_iconst (v := (0 : Int32)) hx hb dX9_ask_1 (by decide) ?_
  refine lv_iconst (v := (1 : Int32)) hx hb dX9_ask_2 (by decide) ?_
  refine z_ri (z_runS (As := [.int p1, .int (0 : Int32), .int (1 : Int32)]) (rest := []) hF (c_X9_in l D cI cC cZ p1 (0 : Int32) (1 : Int32) _ _ hw) (va_cwS 3 hz (z_gS z3_225 z3_226 z1_10 z3_227) rfl rfl rfl hd_X9_in ⟨Nat.le_of_ble_eq_true rfl, Nat.le_of_ble_eq_true rfl⟩) hK hP hD [] rfl rfl rfl hl.1 rfl (Nat.le_of_ble_eq_true rfl) dX9_ask_3 ⟨Nat.zero_le _, Nat.zero_le _⟩) hP hD hS hA [] rfl (fun _ => rfl) (fun _ => cw_X9_ask cI h h_sight h_counts g_book g_now g_places g_power g_spite g_ways g_milky g_signs g_pad g_offAt g_offWho g_reason g_acts g_enough g_rows g_pours g_image g_isKept f_sights f_sight f_counts) (fun _ => rfl) (fun r3 u3 H locs hw hP hD hS => ?_)
  obtain ⟨hn3, hw⟩ := hw
  try dsimp only at hw
  refine lv_if_ne (tgt := 12) hx hb dX9_ask_6 (by decide) (fun c6 => ?_) (fun c6 => ?_)
  · have hw := hw.2 c6
    refine lv_bipush (v := (-6 : Int32)) hx hb dX9_ask_12 (by decide) ?_
    refine lv_istore_n (lv' := [(2, .int (-6 : Int32)), (0, .ref h), (1, .int p1)]) hx hb dX9_ask_14 rfl hl (by decide) rfl (fun ls hl => ?_)
    refine lv_ldc (v := (1000000 : Int32)) hx hb hown (hz _ z4_113) dX9_ask_15 ?_
    refine lv_istore_n (lv' := [(3, .int (1000000 : Int32)), (2, .int (-6 : Int32)), (0, .ref h), (1, .int p1)]) hx hb dX9_ask_17 rfl hl (by decide) rfl (fun ls hl => ?_)
    refine lv_iconst (v := (0 : Int32)) hx hb dX9_ask_18 (by decide) ?_
    refine lv_istore (lv' := [(4, .int (0 : Int32)), (3, .int (1000000 : Int32)), (2, .int (-6 : Int32)), (0, .ref h), (1, .int p1)]) hx hb dX9_ask_19 hl (by decide) rfl (fun ls hl => ?_)
    obtain ⟨n21, hw⟩ := hw
    exact L21 n21 f_counts (-6 : Int32) (1000000 : Int32) (0 : Int32) _ _ _ hw hP hD hS (lv_sub hl [3, 4, 2, 1, 0] rfl)
  have hw := hw.1 c6
  refine lv_bipush (v := (-2 : Int32)) hx hb dX9_ask_9 (by decide) ?_
  exact z_iret hx hb hr hlocks f_counts hw hP hS dX9_ask_11
